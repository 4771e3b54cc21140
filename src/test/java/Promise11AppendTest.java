/** Promise 11: append. */
public final class Promise11AppendTest {
    public static void main(String[] args) {
        wrongBytes();
        fullFile();
        Checks.end();
    }

    private static void wrongBytes() {
        SevenPassImage x = new SevenPassImage();
        Checks.due("append 0", x.append(0), true);
        Checks.due("append 255", x.append(255), true);
        int[] wrong = {Integer.MIN_VALUE, -1, 256, 511, Integer.MAX_VALUE};
        for (int b : wrong) {
            Checks.due("append " + b, x.append(b), false);
        }
        Checks.due("length", x.length(), 2);
        Checks.due("byte 0", x.byteAt(0), 0);
        Checks.due("byte 1", x.byteAt(1), 255);
    }

    private static void fullFile() {
        SevenPassImage x = new SevenPassImage();
        int length = FullFile.fill(x, 700);
        Checks.due("length", x.length(), 700);
        Checks.due("append as byte 700", x.append(1), false);
        Checks.due("length", x.length(), 700);
        Checks.due("byteAt 699", x.byteAt(699), 699 % 256);
        Checks.due("byteAt 700", x.byteAt(700), SevenPassImage.NONE);
        Checks.due("trim", x.trim(699), true);
        Checks.due("append again", x.append(77), true);
        Checks.due("byteAt 699", x.byteAt(699), 77);
        Checks.due("append to 700 again", x.append(77), false);
        Checks.due("read", x.read(), SevenPassImage.FRAME);
        Checks.due("write", x.write(false, 0), length);
    }
}
