/** Promise 5: get. */
public final class Promise05GetTest {
    public static void main(String[] args) {
        SevenPassImage x = new SevenPassImage();
        x.begin(4, 8, 3, 8);
        x.set(2, 7, 1, 77);
        x.set(2, 7, 0, 1);
        x.set(1, 7, 1, 2);
        x.set(2, 6, 1, 3);
        Checks.due("get", x.get(2, 7, 1), 77);
        Checks.due("get of sample 0", x.get(2, 7, 0), 1);
        Checks.due("get of column 1", x.get(1, 7, 1), 2);
        Checks.due("get of row 6", x.get(2, 6, 1), 3);
        Checks.due("get of none set", x.get(0, 0, 0), 0);
        int[] wrong = {Integer.MIN_VALUE, -1, 8, Integer.MAX_VALUE};
        for (int one : wrong) {
            Checks.due("get of column " + one, x.get(one, 7, 1), SevenPassImage.NONE);
            Checks.due("get of row " + one, x.get(2, one, 1), SevenPassImage.NONE);
            Checks.due("get of sample " + one, x.get(2, 7, one), SevenPassImage.NONE);
        }
        Checks.due("get of column 3", x.get(3, 7, 1), SevenPassImage.NONE);
        Checks.due("get of sample 2", x.get(2, 7, 2), SevenPassImage.NONE);
        x.begin(0, 8, 3, 7);
        Checks.due("get of row 7 of seven", x.get(2, 7, 0), SevenPassImage.NONE);
        Checks.due("get of sample 1 of one", x.get(2, 6, 1), SevenPassImage.NONE);
        Checks.due("get after begin", x.get(2, 6, 0), 0);
        Checks.end();
    }
}
