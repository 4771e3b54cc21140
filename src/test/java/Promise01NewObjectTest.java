/** Promise 1: a new object. */
public final class Promise01NewObjectTest {
    public static void main(String[] args) {
        SevenPassImage x = new SevenPassImage();
        Checks.due("shape", x.shape(), 10101);
        Checks.due("get", x.get(0, 0, 0), 0);
        Checks.due("get of column 1", x.get(1, 0, 0), SevenPassImage.NONE);
        Checks.due("get of row 1", x.get(0, 1, 0), SevenPassImage.NONE);
        Checks.due("get of sample 1", x.get(0, 0, 1), SevenPassImage.NONE);
        Checks.due("length", x.length(), 0);
        Checks.due("byteAt", x.byteAt(0), SevenPassImage.NONE);
        Checks.due("copies", x.copies(), 0);
        for (int filter = 0; filter < 5; filter++) {
            Checks.due("rows " + filter, x.rows(filter), 0);
        }
        Checks.due("read", x.read(), SevenPassImage.FRAME);
        Checks.due("set 2", x.set(0, 0, 0, 2), false);
        Checks.due("set 1", x.set(0, 0, 0, 1), true);
        Checks.due("append", x.append(5), true);
        SevenPassImage y = new SevenPassImage();
        Checks.due("get of another", y.get(0, 0, 0), 0);
        Checks.due("length of another", y.length(), 0);
        Checks.end();
    }
}
