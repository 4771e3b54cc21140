import java.util.Arrays;

/** FILE, CHUNK and CHECK: 700 bytes, the number of a chunk's bytes, and its check. */
public final class TermsFileTest {
    /** A picture of one row and three columns, grey of depth 8: 5, 6, 7. */
    private static final byte[] HEAD = Chunks.head(0, 8, 3, 1, false);
    private static final byte[] DATA = Chunks.chunk("IDAT",
        new PackedData().plain(true, 0, 5, 6, 7).bytes());

    public static void main(String[] args) {
        bytesOfTheFile();
        sevenHundredBytes();
        nothingChangesInAFullFile();
        readOfAFullFile();
        chunkNumberGreatestFirst();
        chunkOfNoBytes();
        checkOfTypeAndBytes();
        checkIsNotOfTheNumber();
        checkGreatestFirst();
        knownCheck();
        types();
        Checks.end();
    }

    /** "bytes 0 .. 255". */
    private static void bytesOfTheFile() {
        SevenPassImage x = new SevenPassImage();
        for (int b : new int[] {Integer.MIN_VALUE, -256, -2, -1, 256, 257, Integer.MAX_VALUE}) {
            Checks.due("append " + b, x.append(b), false);
        }
        Checks.due("length", x.length(), 0);
        for (int b = 0; b < 256; b++) {
            Checks.due("append " + b, x.append(b), true);
        }
        for (int b : new int[] {Integer.MIN_VALUE, -256, -1, 256, 257, Integer.MAX_VALUE}) {
            Checks.due("poke " + b, x.poke(7, b), false);
        }
        for (int k = 0; k < 200; k++) {
            Checks.due("byteAt " + k, x.byteAt(k), k);
        }
    }

    /** "at most 700 bytes": the 700th goes in, the next does not, until one is taken away. */
    private static void sevenHundredBytes() {
        SevenPassImage x = new SevenPassImage();
        FullFile.fill(x, 699);
        Checks.due("length", x.length(), 699);
        Checks.due("the 700th byte", x.append(17), true);
        Checks.due("length", x.length(), 700);
        Checks.due("one more", x.append(18), false);
        Checks.due("length", x.length(), 700);
        Checks.due("byteAt 699", x.byteAt(699), 17);
        Checks.due("byteAt 700", x.byteAt(700), SevenPassImage.NONE);
        Checks.due("poke 699", x.poke(699, 19), true);
        Checks.due("poke 700", x.poke(700, 20), false);
        Checks.due("byteAt 699", x.byteAt(699), 19);
        Checks.due("trim to 701", x.trim(701), false);
        Checks.due("trim to 700", x.trim(700), true);
        Checks.due("one more", x.append(21), false);
        Checks.due("trim to 699", x.trim(699), true);
        Checks.due("the 700th byte again", x.append(22), true);
        Checks.due("one more again", x.append(23), false);
        Checks.due("byteAt 699", x.byteAt(699), 22);
    }

    /** "false, changing nothing, when .. 700 are there": all bytes, the picture and the counts. */
    private static void nothingChangesInAFullFile() {
        byte[] before = Written.file(x -> FullFile.fill(x, 700), FullFile.CALLS);
        byte[] after = Written.file(x -> {
            FullFile.fill(x, 700);
            Checks.due("append", x.append(1), false);
            Checks.due("append", x.append(0), false);
            Checks.due("append", x.append(-1), false);
            Checks.due("poke", x.poke(700, 1), false);
            Checks.due("trim", x.trim(701), false);
            Checks.due("seal", x.seal(689), false);
            Checks.due("read", x.read(), SevenPassImage.FRAME);
        }, FullFile.CALLS);
        Checks.due("all bytes", Arrays.toString(after), Arrays.toString(before));
        SevenPassImage x = new SevenPassImage();
        int written = FullFile.fill(x, 700);
        String counts = State.counts(x);
        Checks.due("append", x.append(1), false);
        Checks.due("the counts", State.counts(x), counts);
        Checks.due("shape", x.shape(), 6080808);
        Checks.due("write", x.write(false, 0), written);
        Checks.due("length", x.length(), written);
        for (int row = 0; row < 8; row++) {
            samplesOfAFullFile(row);
        }
    }

    /** One row for each object, as all samples would be too many calls for one. */
    private static void samplesOfAFullFile(int row) {
        SevenPassImage x = new SevenPassImage();
        FullFile.fill(x, 700);
        Checks.due("append", x.append(1), false);
        for (int k = 1; k <= 32; k++) {
            // Byte k of the first row is 11 k k + 3 k, and each row adds as much.
            Checks.due("get", x.get((k - 1) / 4, row, (k - 1) % 4),
                (row + 1) * (11 * k * k + 3 * k) % 256);
        }
    }

    /** A right file of just 700 bytes, with an other chunk in it that takes what is left. */
    private static void readOfAFullFile() {
        for (int size = 699; size <= 700; size++) {
            SevenPassImage x = new SevenPassImage();
            int written = FullFile.fill(x, 0);
            x.trim(written - 12);
            int n = size - written - 12;
            Chunks.fill(x, Chunks.chunk("fILL", new byte[n]));
            Chunks.fill(x, Chunks.LAST);
            Checks.due("length", x.length(), size);
            x.begin(0, 1, 1, 1);
            Checks.due("read of " + size + " bytes", x.read(), 0);
            Checks.due("shape", x.shape(), 6080808);
            Checks.due("get", x.get(0, 0, 0), 14);
            Checks.due("seal of LAST", x.seal(size - 12), true);
            Checks.due("seal behind LAST's beginning", x.seal(size - 11), false);
            Checks.due("read of " + size + " bytes again", x.read(), 0);
        }
    }

    /** "four bytes, a number n, greatest first": chunks of 255 bytes, and of 256 and more. */
    private static void chunkNumberGreatestFirst() {
        for (int n : new int[] {1, 2, 254, 255, 256, 257, 300}) {
            byte[] other = Chunks.chunk("oTHR", new byte[n]);
            Checks.due("first byte of n", other[2], n / 256);
            SevenPassImage x = Chunks.holding(Chunks.file(HEAD, other, DATA, Chunks.LAST));
            Checks.due("a chunk of " + n + " bytes", x.read(), 0);
            // The same number with its lowest byte first.
            byte[] turned = other.clone();
            turned[0] = other[3];
            turned[1] = other[2];
            turned[2] = 0;
            turned[3] = 0;
            Checks.due("n the other way round", Chunks.read(
                Chunks.file(HEAD, turned, DATA, Chunks.LAST)), SevenPassImage.FRAME);
        }
    }

    private static void chunkOfNoBytes() {
        SevenPassImage x = Chunks.holding(Chunks.file(HEAD, Chunks.chunk("oTHR"),
            Chunks.chunk("IDAT"), DATA, Chunks.chunk("IDAT"), Chunks.chunk("oTHR"), Chunks.LAST));
        Checks.due("chunks of no bytes", x.read(), 0);
        Pictures.dueSamples("chunks of no bytes", x, 5, 6, 7);
    }

    /** "the CHECK of type and the n bytes": each bit of both, and of the check itself. */
    private static void checkOfTypeAndBytes() {
        byte[] other = Chunks.chunk("oTHR", 1, 2, 3);
        int at = 8 + HEAD.length;
        for (int bit = 32; bit < 8 * other.length; bit++) {
            SevenPassImage x = Chunks.holding(Chunks.file(HEAD, other, DATA, Chunks.LAST));
            int k = at + bit / 8;
            Checks.due("poke", x.poke(k, x.byteAt(k) ^ 1 << bit % 8), true);
            Checks.due("read with bit " + bit + " turned", x.read(), SevenPassImage.FRAME);
            // Sealed it holds again, unless the type has lost its bit 32.
            Checks.due("seal", x.seal(at), true);
            Checks.due("read with bit " + bit + " turned and sealed", x.read(),
                bit == 37 ? SevenPassImage.FRAME : 0);
        }
    }

    /** The number is no part of what is checked, and neither is what lies behind the chunk. */
    private static void checkIsNotOfTheNumber() {
        SevenPassImage x = Chunks.holding(Chunks.bytes(0, 0, 0, 0, 73, 69, 78, 68, 1, 2, 3, 4, 5));
        Checks.due("seal", x.seal(0), true);
        for (int k = 0; k < 4; k++) {
            Checks.due("check byte " + k, x.byteAt(8 + k),
                new int[] {174, 66, 96, 130}[k]);
        }
        Checks.due("the byte behind", x.byteAt(12), 5);
    }

    private static void checkGreatestFirst() {
        byte[] last = Chunks.LAST.clone();
        for (int k = 0; k < 4; k++) {
            last[8 + k] = Chunks.LAST[11 - k];
        }
        Checks.due("the check the other way round", Chunks.read(Chunks.file(HEAD, DATA, last)),
            SevenPassImage.FRAME);
        Checks.due("the check greatest first", Chunks.read(Chunks.file(HEAD, DATA, Chunks.LAST)),
            0);
    }

    /** The check of the digits 1 to 9 is known far and wide. */
    private static void knownCheck() {
        SevenPassImage x = Chunks.holding(Chunks.bytes(0, 0, 0, 5, '1', '2', '3', '4', '5', '6',
            '7', '8', '9', 0, 0, 0, 0));
        Checks.due("seal", x.seal(0), true);
        int[] check = {0xCB, 0xF4, 0x39, 0x26};
        for (int k = 0; k < 4; k++) {
            Checks.due("check byte " + k, x.byteAt(13 + k), check[k]);
        }
    }

    /** "HEAD 73 72 68 82, DATA 73 68 65 84, LAST 73 69 78 68": as they are written. */
    private static void types() {
        SevenPassImage x = new SevenPassImage();
        int length = x.write(false, 0);
        int[][] chunks = {{8, 73, 72, 68, 82}, {33, 73, 68, 65, 84}, {length - 12, 73, 69, 78, 68}};
        for (int[] chunk : chunks) {
            for (int k = 1; k <= 4; k++) {
                Checks.due("type byte", x.byteAt(chunk[0] + 3 + k), chunk[k]);
            }
        }
        for (int k = 0; k < 4; k++) {
            Checks.due("LAST has no bytes", x.byteAt(length - 12 + k), 0);
        }
        Checks.due("HEAD has 13", x.byteAt(11), 13);
        Checks.due("DATA has what is left", x.byteAt(36), length - 8 - 25 - 12 - 12);
    }
}
