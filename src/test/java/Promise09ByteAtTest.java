/** Promise 9: byteAt. */
public final class Promise09ByteAtTest {
    public static void main(String[] args) {
        SevenPassImage x = new SevenPassImage();
        Checks.due("byteAt of none", x.byteAt(0), SevenPassImage.NONE);
        int[] bytes = {0, 255, 128, 127, 1};
        for (int b : bytes) {
            x.append(b);
        }
        for (int k = 0; k < bytes.length; k++) {
            Checks.due("byteAt " + k, x.byteAt(k), bytes[k]);
        }
        int[] wrong = {Integer.MIN_VALUE, -1, 5, 6, 699, 700, 701, Integer.MAX_VALUE};
        for (int k : wrong) {
            Checks.due("byteAt " + k, x.byteAt(k), SevenPassImage.NONE);
        }
        x.trim(3);
        Checks.due("byteAt 2 after trim", x.byteAt(2), 128);
        Checks.due("byteAt 3 after trim", x.byteAt(3), SevenPassImage.NONE);
        x.write(false, 0);
        int[] first = {137, 80, 78, 71, 13, 10, 26, 10, 0, 0, 0, 13, 73, 72, 68, 82, 0, 0, 0, 1};
        for (int k = 0; k < first.length; k++) {
            Checks.due("byteAt " + k + " after write", x.byteAt(k), first[k]);
        }
        Checks.end();
    }
}
