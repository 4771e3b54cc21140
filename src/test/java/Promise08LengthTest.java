/** Promise 8: length. */
public final class Promise08LengthTest {
    public static void main(String[] args) {
        SevenPassImage x = new SevenPassImage();
        Checks.due("length", x.length(), 0);
        x.append(1);
        x.append(2);
        Checks.due("length after append", x.length(), 2);
        x.append(256);
        x.poke(1, 3);
        x.seal(0);
        Checks.due("length after a wrong append and poke", x.length(), 2);
        x.trim(1);
        Checks.due("length after trim", x.length(), 1);
        int written = x.write(false, 0);
        // 8 first bytes, HEAD of 25, LAST of 12, DATA of 12 and the packed data: 2 + 4 bytes and
        // 3 + 8 + 8 + 7 bits.
        Checks.due("write", written, 8 + 25 + 12 + 12 + 6 + 4);
        Checks.due("length after write", x.length(), written);
        x.write(true, 9);
        x.read();
        x.begin(6, 8, 8, 8);
        Checks.due("length after a wrong write, read and begin", x.length(), written);
        x.trim(0);
        Checks.due("length after trim to 0", x.length(), 0);
        Checks.end();
    }
}
