/** Promise 2: begin. */
public final class Promise02BeginTest {
    public static void main(String[] args) {
        everyKindAndDepth();
        sides();
        clearsSamples();
        changesNothingElse();
        Checks.end();
    }

    private static boolean fits(int kind, int depth) {
        String both = " " + kind + "," + depth + " ";
        return " 0,1 0,2 0,4 0,8 2,8 4,8 6,8 ".contains(both);
    }

    private static void everyKindAndDepth() {
        for (int kind = -2; kind <= 9; kind++) {
            SevenPassImage x = new SevenPassImage();
            for (int depth = -2; depth <= 17; depth++) {
                int before = x.shape();
                boolean fits = fits(kind, depth);
                Checks.due("begin " + kind + "," + depth, x.begin(kind, depth, 3, 2), fits);
                int after = fits ? 1000000 * kind + 10000 * depth + 302 : before;
                Checks.due("shape after " + kind + "," + depth, x.shape(), after);
            }
        }
        SevenPassImage x = new SevenPassImage();
        int[] wrong = {Integer.MIN_VALUE, -8, 16, 256, 264, Integer.MAX_VALUE};
        for (int one : wrong) {
            Checks.due("begin of kind " + one, x.begin(one, 8, 1, 1), false);
            Checks.due("begin of depth " + one, x.begin(0, one, 1, 1), false);
        }
    }

    private static void sides() {
        SevenPassImage x = new SevenPassImage();
        int[] sides = {Integer.MIN_VALUE, -1, 0, 1, 8, 9, 257, Integer.MAX_VALUE};
        for (int side : sides) {
            boolean fits = side == 1 || side == 8;
            Checks.due("begin w " + side, x.begin(6, 8, side, 2), fits);
            Checks.due("begin h " + side, x.begin(6, 8, 2, side), fits);
        }
        Checks.due("shape", x.shape(), 6080208);
    }

    private static void clearsSamples() {
        SevenPassImage x = new SevenPassImage();
        x.begin(2, 8, 2, 2);
        for (int i = 0; i < 12; i++) {
            Checks.due("set", x.set(i % 2, i / 2 % 2, i / 4, 255), true);
        }
        Checks.due("begin of the same", x.begin(2, 8, 2, 2), true);
        for (int i = 0; i < 12; i++) {
            Checks.due("get", x.get(i % 2, i / 2 % 2, i / 4), 0);
        }
        x.set(1, 1, 2, 9);
        Checks.due("wrong begin", x.begin(2, 8, 2, 9), false);
        Checks.due("get after a wrong begin", x.get(1, 1, 2), 9);
        Checks.due("shape after a wrong begin", x.shape(), 2080202);
    }

    private static void changesNothingElse() {
        SevenPassImage x = new SevenPassImage();
        x.begin(0, 8, 8, 8);
        int length = x.write(false, 2);
        int copies = x.copies();
        Checks.due("begin", x.begin(0, 1, 1, 1), true);
        Checks.due("length", x.length(), length);
        Checks.due("copies", x.copies(), copies);
        Checks.due("rows", x.rows(2), 8);
    }
}
