/** Calls that are not refused change what their promise says, and nothing else. */
public final class AcceptedCallsTest {
    /** One row by filter 1, one by 2, one by 0, and a copy. */
    private static final int[] SAMPLES = {100, 101, 102, 100, 101, 102, 0, 0, 0};

    private final SevenPassImage x = Pictures.grey(3, SAMPLES);
    private String picture;
    private String file;
    private String counts;

    private AcceptedCallsTest() {
        x.write(false, 5);
        x.set(2, 2, 0, 9);
        picture = State.picture(x);
        file = State.file(x);
        counts = State.counts(x);
    }

    public static void main(String[] args) {
        Checks.due("the counts", new AcceptedCallsTest().counts, "rows 1 1 1 0 0, copies 1");
        new AcceptedCallsTest().begin();
        new AcceptedCallsTest().set();
        new AcceptedCallsTest().poke();
        new AcceptedCallsTest().append();
        new AcceptedCallsTest().trim();
        new AcceptedCallsTest().seal();
        new AcceptedCallsTest().asked();
        new AcceptedCallsTest().write();
        new AcceptedCallsTest().read();
        Checks.end();
    }

    private void duePicture(String want) {
        Checks.due("the picture", State.picture(x), want);
    }

    private void dueFile(String want) {
        Checks.due("the file", State.file(x), want);
    }

    private void dueCounts(String want) {
        Checks.due("the counts", State.counts(x), want);
    }

    private void begin() {
        Checks.due("begin", x.begin(4, 8, 1, 2), true);
        duePicture("shape 4080102, samples 0 0 0 0");
        dueFile(file);
        dueCounts(counts);
        Checks.due("begin of the same", x.begin(4, 8, 1, 2), true);
        x.set(0, 1, 1, 5);
        Checks.due("begin of the same", x.begin(4, 8, 1, 2), true);
        duePicture("shape 4080102, samples 0 0 0 0");
        dueFile(file);
        dueCounts(counts);
    }

    private void set() {
        Checks.due("set", x.set(1, 1, 0, 77), true);
        duePicture("shape 80303, samples 100 101 102 100 77 102 0 0 9");
        dueFile(file);
        dueCounts(counts);
    }

    private void poke() {
        int last = x.length() - 1;
        Checks.due("poke", x.poke(last, 7), true);
        duePicture(picture);
        dueFile(file.substring(0, file.lastIndexOf(' ')) + " 7");
        dueCounts(counts);
    }

    private void append() {
        int length = x.length();
        Checks.due("append", x.append(255), true);
        duePicture(picture);
        dueFile(file.replaceFirst("^" + length, "" + (length + 1)) + " 255");
        dueCounts(counts);
    }

    private void trim() {
        Checks.due("trim", x.trim(2), true);
        duePicture(picture);
        dueFile("2 bytes 137 80");
        dueCounts(counts);
    }

    private void seal() {
        int length = x.length();
        Checks.due("seal of a right chunk", x.seal(33), true);
        dueFile(file);
        x.poke(length - 1, 0);
        x.poke(length - 4, 0);
        Checks.due("seal of a spoiled one", x.seal(length - 12), true);
        duePicture(picture);
        dueFile(file);
        dueCounts(counts);
    }

    /** Calls that only ask. */
    private void asked() {
        x.shape();
        x.get(0, 0, 0);
        x.length();
        x.byteAt(0);
        x.rows(0);
        x.copies();
        duePicture(picture);
        dueFile(file);
        dueCounts(counts);
    }

    private void write() {
        Checks.due("write", x.write(true, 4), x.length());
        duePicture(picture);
        // 3 by 3 in seven passes: pass 0, 3 and 4 have a row each, 5 has two, 6 has one.
        Checks.due("rows 4", x.rows(4), 6);
        for (int filter = 0; filter < 4; filter++) {
            Checks.due("rows " + filter, x.rows(filter), 0);
        }
    }

    private void read() {
        x.begin(0, 1, 8, 8);
        Checks.due("read", x.read(), 0);
        duePicture(picture.substring(0, picture.lastIndexOf(' ')) + " 0");
        dueFile(file);
        dueCounts(counts);
    }
}
