import java.util.Arrays;

/** ROWS and THE DATA: how many bytes a row takes, its bits, and each filter at its edges. */
public final class TermsRowsTest {
    private static final int[] EDGES = {0, 1, 2, 127, 128, 129, 254, 255};

    public static void main(String[] args) {
        bytesOfARow();
        asManyDataAsRowsTake();
        fromTheHighestBitOn();
        bitsLeftOverWritten();
        bitsLeftOverReadAnyhow();
        bitsLeftOverBelongToTheBytes();
        bitsLeftOverAreGoneWhenWritten();
        unitOfEachKind();
        beforeTheRowsBeginning();
        aboveTheFirstRow();
        moduloTwoHundredFiftySix();
        halfRoundedDown();
        nearestOfThree();
        severalAsNear();
        filterNumbers();
        Checks.end();
    }

    private static byte[] file(int kind, int depth, int w, int h, int... data) {
        return Chunks.whole(Chunks.head(kind, depth, w, h, false),
            new PackedData().plain(true, data).bytes());
    }

    /** How many bytes a row of 1 .. 8 points takes, counted by hand. */
    private static final int[][] ROW_BYTES = {
        {1, 1, 1, 1, 1, 1, 1, 1}, {1, 1, 1, 1, 2, 2, 2, 2}, {1, 1, 2, 2, 3, 3, 4, 4},
        {1, 2, 3, 4, 5, 6, 7, 8}, {3, 6, 9, 12, 15, 18, 21, 24}, {2, 4, 6, 8, 10, 12, 14, 16},
        {4, 8, 12, 16, 20, 24, 28, 32}};

    /** "takes (n * s * depth + 7) / 8 bytes, rounded down": in writing. */
    private static void bytesOfARow() {
        for (int i = 0; i < 7; i++) {
            for (int w = 1; w <= 8; w++) {
                for (int h : new int[] {1, 2, 8}) {
                    SevenPassImage x = new SevenPassImage();
                    x.begin(Pictures.KINDS[i][0], Pictures.KINDS[i][1], w, h);
                    x.write(false, 0);
                    Checks.due("data of " + x.shape(), Written.data(x).length,
                        h * (1 + ROW_BYTES[i][w - 1]));
                }
            }
        }
    }

    /** "there are not as many data as the picture's rows take": in reading, on both sides. */
    private static void asManyDataAsRowsTake() {
        for (int i = 0; i < 7; i++) {
            for (int w = 1; w <= 8; w++) {
                for (int h : new int[] {1, 2, 8}) {
                    int size = h * (1 + ROW_BYTES[i][w - 1]);
                    for (int n : new int[] {0, 1, size - 2, size - 1, size, size + 1, size + 2}) {
                        int answer = Chunks.read(file(Pictures.KINDS[i][0], Pictures.KINDS[i][1],
                            w, h, new int[n]));
                        Checks.due(n + " data instead of " + size, answer,
                            n == size ? 0 : SevenPassImage.ROWS);
                    }
                }
            }
        }
    }

    /** "the samples point by point, .. depth bits each, from the highest bit of the first byte". */
    private static void fromTheHighestBitOn() {
        dueRow(0, 1, new int[] {1, 0, 1, 1, 0, 0, 1, 0}, 0xB2);
        dueRow(0, 1, new int[] {0, 0, 0, 0, 0, 0, 0, 1}, 0x01);
        dueRow(0, 1, new int[] {1, 0, 0, 0, 0, 0, 0, 0}, 0x80);
        dueRow(0, 2, new int[] {3, 0, 1, 2, 2, 0, 3, 1}, 0xC6, 0x8D);
        dueRow(0, 4, new int[] {1, 15, 8, 0, 7, 9, 14, 2}, 0x1F, 0x80, 0x79, 0xE2);
        dueRow(0, 8, new int[] {255, 0, 128, 1}, 255, 0, 128, 1);
        dueRow(2, 8, new int[] {1, 2, 3, 4, 5, 6}, 1, 2, 3, 4, 5, 6);
        dueRow(4, 8, new int[] {1, 2, 3, 4, 5, 6}, 1, 2, 3, 4, 5, 6);
        dueRow(6, 8, new int[] {1, 2, 3, 4, 5, 6, 7, 8}, 1, 2, 3, 4, 5, 6, 7, 8);
    }

    /** A picture of one row: written by filter 0 it has these bytes, and is read from them. */
    private static void dueRow(int kind, int depth, int[] samples, int... bytes) {
        int[] data = new int[bytes.length + 1];
        System.arraycopy(bytes, 0, data, 1, bytes.length);
        int w = samples.length / Pictures.perPoint(kind);
        String what = "row " + Arrays.toString(samples) + " of depth " + depth;
        SevenPassImage x = Pictures.of(kind, depth, w, samples);
        x.write(false, 0);
        Written.dueData(what, x, data);
        SevenPassImage y = Chunks.holding(file(kind, depth, w, 1, data));
        Checks.due("read of " + what, y.read(), 0);
        Pictures.dueSamples(what, y, samples);
    }

    /** "bits left over in the last byte are 0": every width with bits left over, samples of 1s. */
    private static void bitsLeftOverWritten() {
        for (int depth : new int[] {1, 2, 4}) {
            for (int w = 1; w <= 8; w++) {
                int[] samples = new int[w];
                Arrays.fill(samples, (1 << depth) - 1);
                int used = w * depth;
                int[] bytes = new int[(used + 7) / 8];
                Arrays.fill(bytes, 255);
                if (used % 8 != 0) {
                    bytes[bytes.length - 1] = 256 - (1 << (8 - used % 8));
                }
                dueRow(0, depth, samples, bytes);
            }
        }
    }

    /** "in reading they may be anything: no sample comes from them". */
    private static void bitsLeftOverReadAnyhow() {
        for (int w = 1; w <= 8; w++) {
            for (int over = 0; over < 1 << (8 - w); over++) {
                int samples = 0x55 & -(1 << (8 - w));
                SevenPassImage x = Chunks.holding(file(0, 1, w, 1, 0, samples | over));
                Checks.due("read with " + over + " left over", x.read(), 0);
                int[] want = {0, 1, 0, 1, 0, 1, 0, 1};
                Pictures.dueSamples("with " + over + " left over", x, Arrays.copyOf(want, w));
            }
        }
        for (int over = 0; over < 64; over++) {
            SevenPassImage x = Chunks.holding(file(0, 2, 5, 1, 0, 0x1B, 0x80 | over));
            Checks.due("read with " + over + " left over", x.read(), 0);
            Pictures.dueSamples("with " + over + " left over", x, 0, 1, 2, 3, 2);
        }
        for (int over = 0; over < 16; over++) {
            SevenPassImage x = Chunks.holding(file(0, 4, 3, 1, 0, 0x5A, 0x90 | over));
            Checks.due("read with " + over + " left over", x.read(), 0);
            Pictures.dueSamples("with " + over + " left over", x, 5, 10, 9);
        }
    }

    /** "but they belong to the bytes a, b, c": the byte above with its bits left over. */
    private static void bitsLeftOverBelongToTheBytes() {
        // Above stands 101 and 11111 left over: 0xBF.
        SevenPassImage x = Chunks.holding(file(0, 1, 3, 2, 0, 0xBF, 2, 1));
        Checks.due("read of filter 2", x.read(), 0);
        Pictures.dueSamples("0xBF + 1 is 0xC0", x, 1, 0, 1, 1, 1, 0);
        x = Chunks.holding(file(0, 1, 3, 2, 0, 0xBF, 3, 1));
        Checks.due("read of filter 3", x.read(), 0);
        Pictures.dueSamples("0xBF / 2 + 1 is 0x60", x, 1, 0, 1, 0, 1, 1);
        x = Chunks.holding(file(0, 1, 3, 2, 0, 0xBF, 4, 1));
        Checks.due("read of filter 4", x.read(), 0);
        Pictures.dueSamples("0xBF + 1 by filter 4", x, 1, 0, 1, 1, 1, 0);
        // a 0x30, b 0x3F, c 0x10: b is the nearest to 0x5F; without the bits left over a would be.
        x = Chunks.holding(file(0, 4, 3, 2, 0, 0x10, 0x3F, 4, 0x20, 0x11));
        Checks.due("read of filter 4 in depth 4", x.read(), 0);
        Pictures.dueSamples("b is the nearest by its bits left over", x, 1, 0, 3, 3, 0, 5);
        // Each row passes its bits left over on to the next: 0x9F, 0xBE, 0xDD.
        x = Chunks.holding(file(0, 1, 3, 3, 0, 0x9F, 2, 0x1F, 2, 0x1F));
        Checks.due("read of three rows", x.read(), 0);
        Pictures.dueSamples("three rows", x, 1, 0, 0, 1, 0, 1, 1, 1, 0);
    }

    private static void bitsLeftOverAreGoneWhenWritten() {
        SevenPassImage x = Chunks.holding(file(0, 1, 3, 2, 0, 0xBF, 0, 0x5F));
        Checks.due("read", x.read(), 0);
        x.write(false, 0);
        Written.dueData("written again", x, 0, 0xA0, 0, 0x40);
        x.write(false, 2);
        Written.dueData("written by filter 2", x, 2, 0xA0, 2, 0xA0);
    }

    /** "UNIT is the greater one of 1 and s * depth / 8." */
    private static void unitOfEachKind() {
        // By filter 1 each byte is the difference to the one a unit before.
        int[] units = {1, 1, 1, 1, 3, 2, 4};
        for (int i = 0; i < units.length; i++) {
            int kind = Pictures.KINDS[i][0];
            int depth = Pictures.KINDS[i][1];
            int size = 8 * Pictures.perPoint(kind) * depth / 8;
            int[] data = new int[size + 1];
            data[0] = 1;
            for (int k = 1; k <= size; k++) {
                data[k] = 3 * k;
            }
            int[] bytes = new int[size];
            for (int k = 0; k < size; k++) {
                bytes[k] = data[k + 1] + (k < units[i] ? 0 : bytes[k - units[i]]) & 255;
            }
            SevenPassImage x = Chunks.holding(file(kind, depth, 8, 1, data));
            Checks.due("read of kind " + kind + " and depth " + depth, x.read(), 0);
            x.write(false, 0);
            int[] plain = new int[size + 1];
            System.arraycopy(bytes, 0, plain, 1, size);
            Written.dueData("bytes of kind " + kind + " and depth " + depth, x, plain);
            x.write(false, 1);
            Written.dueData("by filter 1 of kind " + kind + " and depth " + depth, x, data);
        }
    }

    /** "those that there are not (before the row's beginning ..) are 0": every byte of a unit. */
    private static void beforeTheRowsBeginning() {
        for (int kind : new int[] {0, 2, 4, 6}) {
            int s = Pictures.perPoint(kind);
            int[] first = {200, 100, 50, 25};
            int[] second = {10, 60, 250, 5};
            int[] samples = new int[2 * s];
            System.arraycopy(first, 0, samples, 0, s);
            System.arraycopy(second, 0, samples, s, s);
            dueFiltered(kind, samples, 1, 0, 0);
            dueFiltered(kind, samples, 2, 1, 1);
            dueFiltered(kind, samples, 3, 1, 2);
            dueFiltered(kind, samples, 4, 1, 1);
        }
    }

    /** Two rows of one point: the second row's bytes less times / parts of those above. */
    private static void dueFiltered(int kind, int[] samples, int filter, int times, int parts) {
        int s = samples.length / 2;
        int[] data = new int[2 * s + 2];
        data[0] = filter;
        data[s + 1] = filter;
        for (int k = 0; k < s; k++) {
            data[k + 1] = samples[k];
            int less = times == 0 ? 0 : times * samples[k] / parts;
            data[s + 2 + k] = samples[s + k] - less & 255;
        }
        SevenPassImage x = Pictures.of(kind, 8, 1, samples);
        x.write(false, filter);
        Written.dueData("one column of kind " + kind + " by filter " + filter, x, data);
        Checks.due("read", x.read(), 0);
        Pictures.dueSamples("one column of kind " + kind + " by filter " + filter, x, samples);
    }

    /** "those that there are not (.. above the pass's first row) are 0". */
    private static void aboveTheFirstRow() {
        SevenPassImage x = Pictures.grey(3, 201, 100, 7);
        x.write(false, 2);
        Written.dueData("filter 2 in the first row", x, 2, 201, 100, 7);
        x.write(false, 3);
        Written.dueData("filter 3 in the first row", x, 3, 201, 0, 256 - 43);
        x.write(false, 4);
        Written.dueData("filter 4 in the first row", x, 4, 201, 256 - 101, 256 - 93);
        // The same object's rows of an earlier picture are not above this one's.
        x.begin(0, 8, 3, 1);
        Pictures.paint(x, 0, 3, 1, 2, 3);
        x.write(false, 2);
        Written.dueData("filter 2 in the first row again", x, 2, 1, 2, 3);
        SevenPassImage y = Chunks.holding(file(0, 8, 2, 1, 2, 5, 6));
        Checks.due("read", y.read(), 0);
        Checks.due("read again", y.read(), 0);
        Pictures.dueSamples("read twice", y, 5, 6);
    }

    /** "makes of the byte v the byte (v - p) modulo 256", by filter 1 in writing and reading. */
    private static void moduloTwoHundredFiftySix() {
        for (int p : EDGES) {
            for (int v : EDGES) {
                SevenPassImage x = Pictures.grey(2, p, v);
                x.write(false, 1);
                Written.dueData(v + " less " + p, x, 1, p, v >= p ? v - p : v - p + 256);
                SevenPassImage y = Chunks.holding(file(0, 8, 2, 1, 1, p, v));
                Checks.due("read", y.read(), 0);
                Pictures.dueSamples(v + " and " + p, y, p, v + p > 255 ? v + p - 256 : v + p);
            }
        }
    }

    /** "3: (a + b) / 2, rounded down", of a + b up to 510. */
    private static void halfRoundedDown() {
        for (int a : EDGES) {
            for (int b : EDGES) {
                int half = (a + b - (a + b) % 2) / 2;
                dueByte(3, a, b, 0, half);
                dueByte(3, a, b, 255, half);
            }
        }
        dueByte(3, 255, 255, 0, 255);
        dueByte(3, 255, 254, 0, 254);
        dueByte(3, 0, 1, 0, 0);
        dueByte(3, 1, 0, 0, 0);
    }

    /**
     * A picture of two by two, c and b above a and 77: that 77 less p is written, and that any
     * byte in its place is read with p added.
     */
    private static void dueByte(int filter, int a, int b, int c, int p) {
        String what = "filter " + filter + " of " + a + "," + b + "," + c;
        SevenPassImage x = Pictures.grey(2, c, b, a, 77);
        x.write(false, filter);
        byte[] data = Written.data(x);
        Checks.due(what, data[5] & 255, 77 - p & 255);
        SevenPassImage y = Chunks.holding(file(0, 8, 2, 2, 0, c, b, filter,
            data[4] & 255, 200));
        Checks.due("read of " + what, y.read(), 0);
        Pictures.dueSamples(what, y, c, b, a, 200 + p & 255);
    }

    /** "4: of a, b, c the one nearest to a + b - c", which may be below 0 or above 255. */
    private static void nearestOfThree() {
        int[] few = {0, 1, 3, 100, 128, 254, 255};
        for (int a : few) {
            for (int b : few) {
                for (int c : few) {
                    int aim = a + b - c;
                    int p = a;
                    p = Math.abs(aim - b) < Math.abs(aim - p) ? b : p;
                    p = Math.abs(aim - c) < Math.abs(aim - p) ? c : p;
                    dueByte(4, a, b, c, p);
                }
            }
        }
        dueByte(4, 10, 30, 20, 20);
        dueByte(4, 4, 6, 4, 6);
        dueByte(4, 8, 6, 10, 6);
        dueByte(4, 6, 9, 9, 6);
        // Aims of -155 and 510.
        dueByte(4, 60, 40, 255, 40);
        dueByte(4, 255, 255, 0, 255);
        // An aim of 300 would be 44 modulo 256, nearest to b.
        dueByte(4, 200, 150, 50, 200);
    }

    /** "of several as near, the first of them in this order". */
    private static void severalAsNear() {
        // a and c are 1 off the aim 2, b is 2 off.
        dueByte(4, 1, 4, 3, 1);
        // b and c are 1 off the aim 2, a is 2 off.
        dueByte(4, 4, 1, 3, 1);
        // a and b, if they differ, are as near only with c in the midst, which is nearer then.
        dueByte(4, 20, 40, 30, 30);
        dueByte(4, 40, 20, 30, 30);
        dueByte(4, 10, 10, 5, 10);
        // All three are the same.
        dueByte(4, 7, 7, 7, 7);
    }

    /** "a filter's number is not 0 .. 4": each byte as the number of the first and last row. */
    private static void filterNumbers() {
        for (int filter = 0; filter < 256; filter++) {
            int want = filter <= 4 ? 0 : SevenPassImage.ROWS;
            SevenPassImage x = Chunks.holding(file(0, 8, 2, 2, filter, 1, 2, 0, 3, 4));
            Checks.due("filter " + filter + " in the first row", x.read(), want);
            Checks.due("shape", x.shape(), want == 0 ? 80202 : 10101);
            SevenPassImage y = Chunks.holding(file(0, 8, 2, 2, 0, 1, 2, filter, 3, 4));
            Checks.due("filter " + filter + " in the last row", y.read(), want);
            Checks.due("shape", y.shape(), want == 0 ? 80202 : 10101);
        }
    }
}
