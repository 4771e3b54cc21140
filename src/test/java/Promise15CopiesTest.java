/** Promise 15: copies. */
public final class Promise15CopiesTest {
    public static void main(String[] args) {
        SevenPassImage x = new SevenPassImage();
        Checks.due("copies", x.copies(), 0);
        x.read();
        Checks.due("copies after a wrong read", x.copies(), 0);
        x.begin(6, 8, 8, 8);
        x.write(false, 0);
        Checks.due("copies of 264 bytes 0", x.copies(), 2);
        x.write(false, 7);
        x.begin(0, 8, 4, 1);
        Checks.due("copies after a wrong write and begin", x.copies(), 2);
        x.write(false, 0);
        Checks.due("copies of 5 bytes 0", x.copies(), 1);
        for (int k = 0; k < 4; k++) {
            x.set(k, 0, 0, k + 1);
        }
        x.write(false, 0);
        Checks.due("copies of bytes that differ", x.copies(), 0);
        x.begin(0, 8, 1, 1);
        x.write(false, 0);
        Checks.due("copies of 2 bytes 0", x.copies(), 0);
        readCopies();
        Checks.end();
    }

    private static void readCopies() {
        SevenPassImage x = new SevenPassImage();
        // Three copies in two blocks, none of them the one that write would choose.
        PackedData packed = new PackedData().block(false, 1).literals(0)
            .copy(257, 0, 0, 0, 0, 0).gives(3, 1).copy(257, 0, 0, 1, 0, 0).gives(3, 2).end()
            .block(true, 1).copy(258, 0, 0, 0, 0, 0).gives(4, 1).end();
        byte[] file = Chunks.whole(Chunks.head(2, 8, 1, 1, false), packed.bytes());
        Chunks.fill(x, file);
        Checks.due("read of too many", x.read(), SevenPassImage.ROWS);
        Checks.due("copies stay", x.copies(), 0);
        x.trim(0);
        file = Chunks.whole(Chunks.head(2, 8, 2, 1, false), new PackedData().block(false, 1)
            .literals(0).copy(257, 0, 0, 0, 0, 0).gives(3, 1).end().block(true, 1)
            .copy(257, 0, 0, 1, 0, 0).gives(3, 2).end().bytes());
        Chunks.fill(x, file);
        Checks.due("read", x.read(), 0);
        Checks.due("copies", x.copies(), 2);
        Checks.due("read again", x.read(), 0);
        Checks.due("copies again", x.copies(), 2);
        x.write(false, 0);
        Checks.due("copies after write", x.copies(), 1);
        Checks.due("read of what was written", x.read(), 0);
        Checks.due("copies", x.copies(), 1);
    }
}
