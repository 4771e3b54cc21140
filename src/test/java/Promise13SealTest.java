/** Promise 13: seal. */
public final class Promise13SealTest {
    public static void main(String[] args) {
        knownCheck();
        anywhere();
        tooShort();
        numbers();
        wrongPlaces();
        longestChunk();
        Checks.end();
    }

    private static void dueBytes(String what, SevenPassImage x, byte[] want) {
        Checks.due(what + ": length", x.length(), want.length);
        for (int k = 0; k < want.length; k++) {
            Checks.due(what + ": byte " + k, x.byteAt(k), want[k] & 255);
        }
    }

    private static void knownCheck() {
        // The check of LAST is known far and wide: 174 66 96 130.
        SevenPassImage x = Chunks.holding(Chunks.bytes(0, 0, 0, 0, 73, 69, 78, 68, 1, 2, 3, 4));
        Checks.due("seal", x.seal(0), true);
        dueBytes("LAST", x, Chunks.bytes(0, 0, 0, 0, 73, 69, 78, 68, 174, 66, 96, 130));
        Checks.due("seal once more", x.seal(0), true);
        dueBytes("LAST", x, Chunks.bytes(0, 0, 0, 0, 73, 69, 78, 68, 174, 66, 96, 130));
    }

    private static void anywhere() {
        // Neither the place nor the type nor what lies around matters, the beginning least of all.
        byte[] chunk = Chunks.chunk("\u0000\u00ffab", 200, 0, 7, 255, 128);
        byte[] spoiled = chunk.clone();
        for (int i = 13; i < 17; i++) {
            spoiled[i] ^= 85;
        }
        byte[] before = {9, 8, 7};
        byte[] behind = {6, 5};
        SevenPassImage x = Chunks.holding(PackedData.joined(before, spoiled, behind));
        Checks.due("seal", x.seal(3), true);
        dueBytes("a chunk between", x, PackedData.joined(before, chunk, behind));
    }

    private static void tooShort() {
        for (int n = 0; n < 12; n++) {
            SevenPassImage x = Chunks.holding(new byte[n]);
            Checks.due("seal of " + n + " bytes", x.seal(0), false);
            dueBytes("too short", x, new byte[n]);
        }
        SevenPassImage x = Chunks.holding(new byte[12]);
        Checks.due("seal of 12 bytes", x.seal(0), true);
        dueBytes("four zeros", x, Chunks.chunk("\0\0\0\0"));
        SevenPassImage y = Chunks.holding(Chunks.bytes(0, 0, 0, 2, 1, 1, 1, 1, 5, 5, 0, 0, 0));
        Checks.due("seal of one byte too few", y.seal(0), false);
        Checks.due("byte 12", y.byteAt(12), 0);
        y.append(0);
        Checks.due("seal of all", y.seal(0), true);
    }

    private static void numbers() {
        int[][] great = {{255, 255, 255, 255}, {255, 255, 255, 244}, {128, 0, 0, 0},
            {127, 255, 255, 255}, {127, 255, 255, 244}, {1, 0, 0, 0}, {0, 1, 0, 0}, {0, 0, 1, 0},
            {0, 0, 0, 9}};
        for (int[] number : great) {
            byte[] file = PackedData.joined(Chunks.bytes(number), new byte[16]);
            SevenPassImage x = Chunks.holding(file);
            Checks.due("seal of a great number", x.seal(0), false);
            dueBytes("a great number", x, file);
        }
        SevenPassImage x = Chunks.holding(PackedData.joined(Chunks.bytes(0, 0, 0, 8),
            new byte[16]));
        Checks.due("seal of 8 bytes", x.seal(0), true);
        dueBytes("8 bytes", x, Chunks.chunk("\0\0\0\0", new byte[8]));
        for (int before = 1; before <= 6; before++) {
            byte[] file = PackedData.joined(new byte[before], Chunks.bytes(0, 0, 0, 9),
                new byte[16]);
            SevenPassImage y = Chunks.holding(file);
            Checks.due("seal of 9 bytes where 8 are", y.seal(before), false);
            dueBytes("9 bytes where 8 are", y, file);
        }
    }

    private static void wrongPlaces() {
        SevenPassImage x = new SevenPassImage();
        int[] wrong = {Integer.MIN_VALUE, -12, -1, 0, 1, 700, Integer.MAX_VALUE - 12,
            Integer.MAX_VALUE};
        for (int k : wrong) {
            Checks.due("seal of none at " + k, x.seal(k), false);
        }
        Chunks.fill(x, new byte[20]);
        for (int k : wrong) {
            Checks.due("seal at " + k, x.seal(k), k == 0 || k == 1);
        }
    }

    private static void longestChunk() {
        SevenPassImage x = new SevenPassImage();
        x.append(0);
        x.append(0);
        x.append(1);
        x.append(44);
        for (int k = 0; k < 308; k++) {
            Checks.due("append", x.append(k % 256), true);
        }
        Checks.due("seal of 300 bytes", x.seal(0), true);
        int[] content = new int[300];
        for (int k = 0; k < 300; k++) {
            content[k] = (k + 4) % 256;
        }
        byte[] want = Chunks.chunk("\0\1\2\3", content);
        for (int k = 308; k < 312; k++) {
            Checks.due("byte " + k, x.byteAt(k), want[k] & 255);
        }
        Checks.due("length", x.length(), 312);
    }
}
