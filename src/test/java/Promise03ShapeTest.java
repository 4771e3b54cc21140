/** Promise 3: shape. */
public final class Promise03ShapeTest {
    public static void main(String[] args) {
        SevenPassImage x = new SevenPassImage();
        Checks.due("shape", x.shape(), 10101);
        x.begin(0, 2, 7, 3);
        Checks.due("shape", x.shape(), 20703);
        x.begin(0, 4, 1, 8);
        Checks.due("shape", x.shape(), 40108);
        x.begin(2, 8, 8, 1);
        Checks.due("shape", x.shape(), 2080801);
        x.begin(4, 8, 5, 6);
        Checks.due("shape", x.shape(), 4080506);
        x.begin(6, 8, 8, 8);
        Checks.due("shape", x.shape(), 6080808);
        x.set(1, 1, 1, 1);
        x.append(1);
        Checks.due("shape after set and append", x.shape(), 6080808);
        x.write(true, 0);
        x.begin(0, 1, 2, 2);
        Checks.due("shape after begin", x.shape(), 10202);
        x.read();
        Checks.due("shape after read", x.shape(), 6080808);
        Checks.end();
    }
}
