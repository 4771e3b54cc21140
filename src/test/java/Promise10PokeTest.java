/** Promise 10: poke. */
public final class Promise10PokeTest {
    public static void main(String[] args) {
        SevenPassImage x = new SevenPassImage();
        Checks.due("poke of none", x.poke(0, 1), false);
        Checks.due("length", x.length(), 0);
        x.append(10);
        x.append(11);
        x.append(12);
        Checks.due("poke 255", x.poke(1, 255), true);
        Checks.due("byteAt", x.byteAt(1), 255);
        Checks.due("poke 0", x.poke(1, 0), true);
        Checks.due("byteAt", x.byteAt(1), 0);
        Checks.due("poke of the last", x.poke(2, 7), true);
        int[] places = {Integer.MIN_VALUE, -1, 3, 4, 700, Integer.MAX_VALUE};
        for (int k : places) {
            Checks.due("poke of place " + k, x.poke(k, 1), false);
        }
        int[] bytes = {Integer.MIN_VALUE, -1, 256, 257, Integer.MAX_VALUE};
        for (int b : bytes) {
            Checks.due("poke of byte " + b, x.poke(0, b), false);
        }
        Checks.due("byte 0", x.byteAt(0), 10);
        Checks.due("byte 1", x.byteAt(1), 0);
        Checks.due("byte 2", x.byteAt(2), 7);
        Checks.due("length", x.length(), 3);
        x.trim(2);
        Checks.due("poke behind a trim", x.poke(2, 9), false);
        x.append(5);
        Checks.due("byte 2", x.byteAt(2), 5);
        Checks.end();
    }
}
