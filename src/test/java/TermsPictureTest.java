/** PICTURE: each sentence's bounds, in begin, set, get and in the HEAD of a file. */
public final class TermsPictureTest {
    private static final int MIN = Integer.MIN_VALUE;
    private static final int MAX = Integer.MAX_VALUE;

    public static void main(String[] args) {
        columnsOneToEight();
        rowsOneToEight();
        columnsAndRowsFromZero();
        greyOfEachDepth();
        othersOfDepthEightAlone();
        noOtherKinds();
        samplesOfAPoint();
        sampleValues();
        sidesInHead();
        kindsAndDepthsInHead();
        Checks.end();
    }

    /** "w columns and h rows (1 .. 8 each)", the columns. */
    private static void columnsOneToEight() {
        for (int[] kind : Pictures.KINDS) {
            for (int h : new int[] {1, 8}) {
                SevenPassImage x = new SevenPassImage();
                for (int w : new int[] {0, 9, -1, -8, 10, 16, 257, MIN, MIN + 1, MAX}) {
                    Checks.due("begin w " + w, x.begin(kind[0], kind[1], w, h), false);
                    Checks.due("shape after w " + w, x.shape(), 10101);
                }
                for (int w = 1; w <= 8; w++) {
                    Checks.due("begin w " + w, x.begin(kind[0], kind[1], w, h), true);
                    Checks.due("shape of w " + w, x.shape() / 100 % 100, w);
                }
            }
        }
    }

    /** "w columns and h rows (1 .. 8 each)", the rows. */
    private static void rowsOneToEight() {
        for (int[] kind : Pictures.KINDS) {
            for (int w : new int[] {1, 8}) {
                SevenPassImage x = new SevenPassImage();
                for (int h : new int[] {0, 9, -1, -8, 10, 16, 257, MIN, MIN + 1, MAX}) {
                    Checks.due("begin h " + h, x.begin(kind[0], kind[1], w, h), false);
                    Checks.due("shape after h " + h, x.shape(), 10101);
                }
                for (int h = 1; h <= 8; h++) {
                    Checks.due("begin h " + h, x.begin(kind[0], kind[1], w, h), true);
                    Checks.due("shape of h " + h, x.shape() % 100, h);
                }
            }
        }
    }

    /** "w columns and h rows .., from 0": the first and last column and row, and those beside. */
    private static void columnsAndRowsFromZero() {
        for (int w = 1; w <= 8; w++) {
            for (int h = 1; h <= 8; h++) {
                SevenPassImage x = new SevenPassImage();
                x.begin(0, 8, w, h);
                duePlace(x, 0, 0, true);
                duePlace(x, w - 1, h - 1, true);
                duePlace(x, w - 1, 0, true);
                duePlace(x, 0, h - 1, true);
                duePlace(x, -1, 0, false);
                duePlace(x, 0, -1, false);
                duePlace(x, w, 0, false);
                duePlace(x, 0, h, false);
                duePlace(x, w, h, false);
                duePlace(x, w - 1, h, false);
                duePlace(x, w, h - 1, false);
            }
        }
    }

    private static void duePlace(SevenPassImage x, int column, int row, boolean there) {
        String place = column + "," + row + " in " + x.shape();
        Checks.due("set of " + place, x.set(column, row, 0, 7), there);
        Checks.due("get of " + place, x.get(column, row, 0), there ? 7 : SevenPassImage.NONE);
    }

    /** "kind 0, grey, .. depth 1, 2, 4 or 8". */
    private static void greyOfEachDepth() {
        SevenPassImage x = new SevenPassImage();
        for (int depth : new int[] {MIN, -8, -1, 0, 3, 5, 6, 7, 9, 10, 12, 15, 16, 32, MAX}) {
            Checks.due("grey of depth " + depth, x.begin(0, depth, 1, 1), false);
        }
        for (int depth : new int[] {1, 2, 4, 8}) {
            Checks.due("grey of depth " + depth, x.begin(0, depth, 1, 1), true);
            Checks.due("shape", x.shape(), 10000 * depth + 101);
        }
    }

    /** "kind 2, colour ..; kind 4, grey with a mask ..; kind 6 ..; these three with depth 8". */
    private static void othersOfDepthEightAlone() {
        for (int kind : new int[] {2, 4, 6}) {
            SevenPassImage x = new SevenPassImage();
            for (int depth : new int[] {MIN, -8, -1, 0, 1, 2, 3, 4, 5, 6, 7, 9, 16, MAX}) {
                Checks.due("kind " + kind + " of depth " + depth,
                    x.begin(kind, depth, 1, 1), false);
            }
            Checks.due("kind " + kind + " of depth 8", x.begin(kind, 8, 1, 1), true);
            Checks.due("shape", x.shape(), 1000000 * kind + 80101);
        }
    }

    /** The kinds are 0, 2, 4 and 6. */
    private static void noOtherKinds() {
        SevenPassImage x = new SevenPassImage();
        for (int kind : new int[] {MIN, -6, -4, -2, -1, 1, 3, 5, 7, 8, 10, 12, 14, 256, 258, MAX}) {
            for (int depth : new int[] {1, 2, 4, 8, 16}) {
                Checks.due("kind " + kind + " of depth " + depth,
                    x.begin(kind, depth, 1, 1), false);
            }
        }
        Checks.due("shape", x.shape(), 10101);
    }

    /** "1 sample a point", "3 samples", "2 samples", "4 samples". */
    private static void samplesOfAPoint() {
        int[][] counts = {{0, 1}, {2, 3}, {4, 2}, {6, 4}};
        for (int[] one : counts) {
            SevenPassImage x = new SevenPassImage();
            x.begin(one[0], 8, 2, 2);
            for (int c = -2; c < 9; c++) {
                boolean there = c >= 0 && c < one[1];
                String what = "sample " + c + " of kind " + one[0];
                Checks.due("set of " + what, x.set(1, 1, c, 50 + c), there);
                Checks.due("get of " + what, x.get(1, 1, c), there ? 50 + c : SevenPassImage.NONE);
                Checks.due("set of the first point's", x.set(0, 0, c, 60 + c), there);
            }
            for (int c = 0; c < one[1]; c++) {
                Checks.due("the last point's " + c, x.get(1, 1, c), 50 + c);
                Checks.due("the first point's " + c, x.get(0, 0, c), 60 + c);
            }
        }
    }

    /** "A sample is 0 .. 2^depth - 1." */
    private static void sampleValues() {
        int[][] mosts = {{1, 1}, {2, 3}, {4, 15}, {8, 255}};
        for (int[] one : mosts) {
            SevenPassImage x = new SevenPassImage();
            x.begin(0, one[0], 8, 8);
            int last = 0;
            for (int v = -2; v <= 260; v++) {
                boolean fits = v >= 0 && v <= one[1];
                Checks.due("set of " + v + " in depth " + one[0], x.set(7, 7, 0, v), fits);
                last = fits ? v : last;
            }
            Checks.due("get", x.get(7, 7, 0), last);
            for (int v : new int[] {MIN, MIN + 1, 65536, MAX}) {
                Checks.due("set of " + v + " in depth " + one[0], x.set(7, 7, 0, v), false);
            }
            Checks.due("get", x.get(7, 7, 0), one[1]);
        }
        for (int kind : new int[] {2, 4, 6}) {
            SevenPassImage x = new SevenPassImage();
            x.begin(kind, 8, 1, 1);
            Checks.due("set of 256", x.set(0, 0, 1, 256), false);
            Checks.due("set of -1", x.set(0, 0, 1, -1), false);
            Checks.due("get", x.get(0, 0, 1), 0);
            Checks.due("set of 255", x.set(0, 0, 1, 255), true);
            Checks.due("get", x.get(0, 0, 1), 255);
        }
    }

    /** The sides as a file says them: each from 0 to 10, with data that fit those from 1 to 8. */
    private static void sidesInHead() {
        for (int w = 0; w <= 10; w++) {
            for (int h = 0; h <= 10; h++) {
                boolean fits = w >= 1 && w <= 8 && h >= 1 && h <= 8;
                PackedData packed = new PackedData().plain(true, new int[h * (w + 1)]);
                SevenPassImage x = Chunks.holding(
                    Chunks.whole(Chunks.head(0, 8, w, h, false), packed.bytes()));
                Checks.due("read of " + w + " by " + h, x.read(), fits ? 0 : SevenPassImage.HEADER);
                Checks.due("shape", x.shape(), fits ? 80000 + 100 * w + h : 10101);
            }
        }
    }

    /** Every byte as kind with every byte as depth; no data are there, so right pairs get ROWS. */
    private static void kindsAndDepthsInHead() {
        byte[] file = Chunks.whole(Chunks.head(0, 8, 1, 1, false),
            new PackedData().plain(true).bytes());
        SevenPassImage x = null;
        int left = 0;
        for (int both = 0; both < 65536; both++) {
            if (left == 0) {
                x = Chunks.holding(file);
                left = 100;
            }
            left--;
            int kind = both / 256;
            int depth = both % 256;
            x.poke(24, depth);
            x.poke(25, kind);
            x.seal(8);
            boolean fits = depth == 8 && (kind == 0 || kind == 2 || kind == 4 || kind == 6)
                || kind == 0 && (depth == 1 || depth == 2 || depth == 4);
            Checks.due("read of kind " + kind + " and depth " + depth, x.read(),
                fits ? SevenPassImage.ROWS : SevenPassImage.HEADER);
        }
    }
}
