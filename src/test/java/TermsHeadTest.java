import java.util.Arrays;

/** HEAD and LAST: their bytes, in writing and in reading. */
public final class TermsHeadTest {
    private static final int HEADER = SevenPassImage.HEADER;
    private static final int ROWS = SevenPassImage.ROWS;
    private static final int[] RIGHT = {0, 0, 0, 3, 0, 0, 0, 1, 8, 0, 0, 0, 0};
    private static final byte[] DATA = Chunks.chunk("IDAT",
        new PackedData().plain(true, 0, 5, 6, 7).bytes());

    public static void main(String[] args) {
        written();
        thirteenBytes();
        widthGreatestFirst();
        heightGreatestFirst();
        depthByte();
        kindByte();
        firstZero();
        secondZero();
        wayOfThePasses();
        lastHasNone();
        Checks.end();
    }

    private static void due(String what, int want, int... head) {
        SevenPassImage x = Chunks.holding(
            Chunks.file(Chunks.chunk("IHDR", head), DATA, Chunks.LAST));
        Checks.due(what, x.read(), want);
        Checks.due(what + ": shape", x.shape(), want == 0 ? 80301 : 10101);
        if (want == 0) {
            Pictures.dueSamples(what, x, 5, 6, 7);
        }
    }

    private static void dueWith(String what, int want, int k, int b) {
        int[] head = RIGHT.clone();
        head[k] = b;
        due(what + " " + b, want, head);
    }

    /** "HEAD has 13 bytes: w and h ..; depth; kind; 0; 0; 0 for one pass or 1 for seven." */
    private static void written() {
        for (int[] kind : Pictures.KINDS) {
            for (int way = 0; way < 2; way++) {
                SevenPassImage x = new SevenPassImage();
                x.begin(kind[0], kind[1], 7, 2);
                x.write(way == 1, 0);
                byte[] file = Arrays.copyOf(Written.file(x), 33);
                byte[] want = PackedData.joined(Chunks.BEGINNING, Chunks.chunk("IHDR",
                    0, 0, 0, 7, 0, 0, 0, 2, kind[1], kind[0], 0, 0, way));
                Checks.due("HEAD", Arrays.toString(file), Arrays.toString(want));
            }
        }
    }

    /** "when HEAD does not have 13 bytes". */
    private static void thirteenBytes() {
        for (int n = 0; n <= 40; n++) {
            due(n + " bytes", n == 13 ? 0 : HEADER, Arrays.copyOf(RIGHT, n));
        }
        due("256 + 13 bytes", HEADER, Arrays.copyOf(RIGHT, 269));
    }

    /** "w .., four bytes .., greatest first": each byte of it. */
    private static void widthGreatestFirst() {
        for (int b = 0; b < 256; b++) {
            dueWith("the least byte of w", b == 3 ? 0 : b >= 1 && b <= 8 ? ROWS : HEADER, 3, b);
            for (int k = 0; k < 3; k++) {
                dueWith("byte " + k + " of w", b == 0 ? 0 : HEADER, k, b);
            }
        }
        due("w the other way round", HEADER, 3, 0, 0, 0, 0, 0, 0, 1, 8, 0, 0, 0, 0);
        due("w of 2^32 - 1", HEADER, 255, 255, 255, 255, 0, 0, 0, 1, 8, 0, 0, 0, 0);
        due("w of 2^31", HEADER, 128, 0, 0, 0, 0, 0, 0, 1, 8, 0, 0, 0, 0);
    }

    /** "h, four bytes .., greatest first": each byte of it. */
    private static void heightGreatestFirst() {
        for (int b = 0; b < 256; b++) {
            dueWith("the least byte of h", b == 1 ? 0 : b >= 1 && b <= 8 ? ROWS : HEADER, 7, b);
            for (int k = 4; k < 7; k++) {
                dueWith("byte " + k + " of h", b == 0 ? 0 : HEADER, k, b);
            }
        }
        due("h the other way round", HEADER, 0, 0, 0, 3, 1, 0, 0, 0, 8, 0, 0, 0, 0);
        due("h of 2^32 - 1", HEADER, 0, 0, 0, 3, 255, 255, 255, 255, 8, 0, 0, 0, 0);
        due("h of 2^31", HEADER, 0, 0, 0, 3, 128, 0, 0, 0, 8, 0, 0, 0, 0);
    }

    private static void depthByte() {
        for (int b = 0; b < 256; b++) {
            boolean fits = b == 1 || b == 2 || b == 4;
            dueWith("depth", b == 8 ? 0 : fits ? ROWS : HEADER, 8, b);
        }
    }

    private static void kindByte() {
        for (int b = 0; b < 256; b++) {
            boolean fits = b == 2 || b == 4 || b == 6;
            dueWith("kind", b == 0 ? 0 : fits ? ROWS : HEADER, 9, b);
        }
        for (int kind : new int[] {2, 4, 6}) {
            for (int depth : new int[] {1, 2, 4}) {
                due("kind " + kind + " of depth " + depth, HEADER,
                    0, 0, 0, 3, 0, 0, 0, 1, depth, kind, 0, 0, 0);
            }
        }
    }

    /** "two 0". */
    private static void firstZero() {
        for (int b = 0; b < 256; b++) {
            dueWith("the first 0", b == 0 ? 0 : HEADER, 10, b);
        }
    }

    private static void secondZero() {
        for (int b = 0; b < 256; b++) {
            dueWith("the second 0", b == 0 ? 0 : HEADER, 11, b);
        }
    }

    /** "a way of the passes": 0 and 1; in seven the four data are too few for three columns. */
    private static void wayOfThePasses() {
        for (int b = 0; b < 256; b++) {
            dueWith("the way", b == 0 ? 0 : b == 1 ? ROWS : HEADER, 12, b);
        }
        SevenPassImage x = Chunks.holding(Chunks.whole(Chunks.head(0, 8, 3, 1, true),
            new PackedData().plain(true, 0, 5, 0, 7, 0, 6).bytes()));
        Checks.due("read of seven passes", x.read(), 0);
        Pictures.dueSamples("seven passes", x, 5, 6, 7);
    }

    /** "LAST has none", and HEADER when "LAST has bytes". */
    private static void lastHasNone() {
        byte[] head = Chunks.chunk("IHDR", RIGHT);
        for (int n : new int[] {0, 1, 2, 13, 200, 256}) {
            SevenPassImage x = Chunks.holding(
                Chunks.file(head, DATA, Chunks.chunk("IEND", new byte[n])));
            Checks.due("LAST with " + n + " bytes", x.read(), n == 0 ? 0 : HEADER);
            Checks.due("shape", x.shape(), n == 0 ? 80301 : 10101);
        }
    }
}
