/** Promise 4: set. */
public final class Promise04SetTest {
    public static void main(String[] args) {
        values();
        places();
        eachSampleIsItsOwn();
        Checks.end();
    }

    private static void values() {
        SevenPassImage x = new SevenPassImage();
        for (int depth = 1; depth <= 8; depth *= 2) {
            int most = depth == 1 ? 1 : depth == 2 ? 3 : depth == 4 ? 15 : 255;
            x.begin(0, depth, 2, 2);
            Checks.due("set of the most", x.set(1, 0, 0, most), true);
            int[] wrong = {-1, most + 1, 256, Integer.MIN_VALUE, Integer.MAX_VALUE};
            for (int v : wrong) {
                Checks.due("set of " + v + " at depth " + depth, x.set(1, 0, 0, v), false);
                Checks.due("get", x.get(1, 0, 0), most);
            }
            Checks.due("set of 0", x.set(1, 0, 0, 0), true);
            Checks.due("get of 0", x.get(1, 0, 0), 0);
        }
    }

    private static void places() {
        int[] kinds = {0, 2, 4, 6};
        int[] counts = {1, 3, 2, 4};
        int[] wrong = {-1, Integer.MIN_VALUE, Integer.MAX_VALUE};
        for (int i = 0; i < kinds.length; i++) {
            SevenPassImage x = new SevenPassImage();
            x.begin(kinds[i], 8, 5, 3);
            Checks.due("set of the last", x.set(4, 2, counts[i] - 1, 200), true);
            Checks.due("set of sample " + counts[i], x.set(4, 2, counts[i], 1), false);
            Checks.due("set of column 5", x.set(5, 2, 0, 1), false);
            Checks.due("set of row 3", x.set(4, 3, 0, 1), false);
            for (int one : wrong) {
                Checks.due("set of column " + one, x.set(one, 1, 0, 1), false);
                Checks.due("set of row " + one, x.set(1, one, 0, 1), false);
                Checks.due("set of sample " + one, x.set(1, 1, one, 1), false);
            }
            Checks.due("the last", x.get(4, 2, counts[i] - 1), 200);
            for (int k = 0; k < 15 * counts[i] - 1; k++) {
                int point = k / counts[i];
                Checks.due("an other", x.get(point % 5, point / 5, k % counts[i]), 0);
            }
        }
    }

    private static void eachSampleIsItsOwn() {
        SevenPassImage x = new SevenPassImage();
        x.begin(6, 8, 8, 7);
        for (int k = 0; k < 224; k++) {
            Checks.due("set", x.set(k / 4 % 8, k / 32, k % 4, 255 - k), true);
        }
        for (int k = 0; k < 224; k++) {
            Checks.due("get", x.get(k / 4 % 8, k / 32, k % 4), 255 - k);
        }
    }
}
