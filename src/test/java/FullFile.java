/** Files of 700 bytes or so, made with few enough calls for some more to be left of the 512. */
final class FullFile {
    /** More than fill makes, and some of those behind it. */
    static final int CALLS = 480;

    private FullFile() {
    }

    /**
     * A short file of a picture whose written file is long is read and written; then bytes are put
     * at its end up to the size. Answers how many bytes were written.
     */
    static int fill(SevenPassImage x, int size) {
        Chunks.fill(x, shortFile());
        Checks.due("read", x.read(), 0);
        int written = x.write(false, 0);
        Checks.due("a long file of " + written, written > 330 && written < 400, true);
        for (int k = written; k < size; k++) {
            Checks.due("append as byte " + k, x.append(k % 256), true);
        }
        return written;
    }

    /** Colour with a mask, eight by eight: each row is the one above it plus the first one. */
    private static byte[] shortFile() {
        int[] row = new int[33];
        row[0] = 2;
        for (int k = 1; k < row.length; k++) {
            row[k] = (k * k * 11 + k * 3) % 256;
        }
        PackedData packed = new PackedData().block(true, 1).literals(row)
            .copy(284, 4, 5, 10, 0, 4).gives(231, 33).end();
        return Chunks.whole(Chunks.head(6, 8, 8, 8, false), packed.bytes());
    }
}
