/** No call throws or fails to end, whatever its arguments and the object's state. */
public final class AnyArgumentsTest {
    private static final int[] NUMBERS = {Integer.MIN_VALUE, Integer.MIN_VALUE + 1, -256, -2, -1, 0,
        1, 2, 3, 4, 5, 6, 7, 8, 9, 16, 255, 256, 300, 688, 699, 700, 701, 65536,
        Integer.MAX_VALUE - 12, Integer.MAX_VALUE - 3, Integer.MAX_VALUE};

    public static void main(String[] args) {
        for (int a : NUMBERS) {
            for (int b : NUMBERS) {
                SevenPassImage x = new SevenPassImage();
                x.begin(6, 8, 8, 8);
                someCalls(x, a, b);
                x.write(true, 5);
                someCalls(x, b, a);
                Checks.due("the picture stands", x.shape(), 6080808);
            }
        }
        longRun();
        Checks.end();
    }

    private static void someCalls(SevenPassImage x, int a, int b) {
        x.set(a, b, 0, 255);
        x.set(0, a, b, 255);
        x.set(1, 1, a, b);
        x.get(a, b, 1);
        x.get(1, a, b);
        x.byteAt(a);
        x.poke(a, b);
        x.append(a);
        x.seal(a);
        x.rows(a);
        x.read();
        x.trim(a);
        x.read();
        x.write(false, a);
    }

    /** Beyond its 512 calls an object may answer what it likes, but it must answer. */
    private static void longRun() {
        SevenPassImage x = new SevenPassImage();
        for (int k = 0; k < 3000; k++) {
            x.append(k * 7 % 256);
            x.seal(k % 700);
            x.read();
        }
        Checks.due("length of a full file", x.length() <= 700, true);
    }
}
