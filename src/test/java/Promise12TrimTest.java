/** Promise 12: trim. */
public final class Promise12TrimTest {
    public static void main(String[] args) {
        SevenPassImage x = new SevenPassImage();
        Checks.due("trim 0 of none", x.trim(0), true);
        Checks.due("trim 1 of none", x.trim(1), false);
        for (int b = 10; b < 16; b++) {
            x.append(b);
        }
        int[] wrong = {Integer.MIN_VALUE, -1, 7, 700, Integer.MAX_VALUE};
        for (int n : wrong) {
            Checks.due("trim " + n, x.trim(n), false);
            Checks.due("length", x.length(), 6);
        }
        Checks.due("trim to all", x.trim(6), true);
        Checks.due("length", x.length(), 6);
        Checks.due("trim 4", x.trim(4), true);
        Checks.due("length", x.length(), 4);
        for (int k = 0; k < 6; k++) {
            Checks.due("byteAt " + k, x.byteAt(k), k < 4 ? 10 + k : SevenPassImage.NONE);
        }
        Checks.due("trim back to 6", x.trim(6), false);
        x.append(99);
        Checks.due("byteAt 4", x.byteAt(4), 99);
        Checks.due("byteAt 5", x.byteAt(5), SevenPassImage.NONE);
        Checks.due("trim 0", x.trim(0), true);
        Checks.due("length", x.length(), 0);
        Checks.end();
    }
}
