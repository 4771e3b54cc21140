/** Promise 14: rows. */
public final class Promise14RowsTest {
    public static void main(String[] args) {
        SevenPassImage x = new SevenPassImage();
        due(x, 0, 0, 0, 0, 0);
        int[] wrong = {Integer.MIN_VALUE, -1, 5, 6, Integer.MAX_VALUE};
        for (int filter : wrong) {
            Checks.due("rows " + filter, x.rows(filter), SevenPassImage.NONE);
        }
        x.begin(0, 8, 8, 8);
        x.read();
        due(x, 0, 0, 0, 0, 0);
        x.write(false, 3);
        due(x, 0, 0, 0, 8, 0);
        x.write(true, 4);
        due(x, 0, 0, 0, 0, 15);
        x.write(true, 6);
        x.begin(0, 1, 1, 1);
        due(x, 0, 0, 0, 0, 15);
        x.begin(0, 8, 1, 8);
        x.write(true, 1);
        due(x, 0, 8, 0, 0, 0);
        x.trim(x.length() - 1);
        Checks.due("read", x.read(), SevenPassImage.FRAME);
        due(x, 0, 8, 0, 0, 0);
        x.trim(0);
        int[] data = {4, 1, 3, 1, 3, 1, 2, 1, 1, 1, 0, 1, 4, 1, 4, 1};
        Chunks.fill(x, Chunks.whole(Chunks.head(0, 8, 1, 8, false),
            new PackedData().plain(true, data).bytes()));
        Checks.due("read", x.read(), 0);
        due(x, 1, 1, 1, 2, 3);
        Checks.due("read again", x.read(), 0);
        due(x, 1, 1, 1, 2, 3);
        x.write(false, 2);
        due(x, 0, 0, 8, 0, 0);
        chosen();
        Checks.end();
    }

    private static void chosen() {
        SevenPassImage x = new SevenPassImage();
        x.begin(0, 8, 3, 3);
        for (int k = 0; k < 3; k++) {
            x.set(k, 0, 0, 100 + k);
            x.set(k, 1, 0, 100 + k);
        }
        x.write(false, 5);
        due(x, 1, 1, 1, 0, 0);
        SevenPassImage y = new SevenPassImage();
        y.begin(0, 8, 3, 3);
        Checks.due("rows of another", y.rows(1), 0);
    }

    private static void due(SevenPassImage x, int... want) {
        for (int filter = 0; filter < 5; filter++) {
            Checks.due("rows " + filter, x.rows(filter), want[filter]);
        }
    }
}
