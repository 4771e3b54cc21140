import java.util.LinkedHashMap;
import java.util.Map;
import java.util.function.Consumer;

/**
 * Each "false, changing nothing" and each NONE, on both sides of each bound, in objects of many
 * states: picture, file, rows and copies answer afterwards as before. (Those of read are in
 * Promise07ReadTest.)
 */
public final class RefusedCallsTest {
    private static final int NONE = SevenPassImage.NONE;
    private static final int MIN = Integer.MIN_VALUE;
    private static final int MAX = Integer.MAX_VALUE;
    private static final int[] FAR = {MIN, MIN + 1, -700, 700, 65536, MAX - 11, MAX - 1, MAX};

    private final String name;
    private final Consumer<SevenPassImage> start;
    private final int w;
    private final int h;
    private final int s;
    private final int most;
    private final int length;

    private RefusedCallsTest(String name, Consumer<SevenPassImage> start) {
        this.name = name;
        this.start = start;
        SevenPassImage x = new SevenPassImage();
        start.accept(x);
        int shape = x.shape();
        w = shape / 100 % 100;
        h = shape % 100;
        s = Pictures.perPoint(shape / 1000000);
        most = (1 << shape / 10000 % 100) - 1;
        length = x.length();
    }

    public static void main(String[] args) {
        starts().forEach((name, start) -> new RefusedCallsTest(name, start).run());
        Checks.end();
    }

    private static Map<String, Consumer<SevenPassImage>> starts() {
        Map<String, Consumer<SevenPassImage>> starts = new LinkedHashMap<>();
        starts.put("new", x -> { });
        starts.put("begun", x -> {
            x.begin(0, 2, 3, 2);
            Pictures.paint(x, 0, 3, 1, 2, 3, 3, 0, 1);
        });
        starts.put("written in one pass", x -> {
            x.begin(4, 8, 2, 1);
            Pictures.paint(x, 4, 2, 255, 0, 128, 7);
            x.write(false, 3);
        });
        starts.put("changed since it was written in seven passes", x -> {
            x.begin(2, 8, 2, 2);
            Pictures.paint(x, 2, 2, 1, 2, 3, 1, 2, 3, 1, 2, 3, 1, 2, 3);
            x.write(true, 5);
            x.begin(0, 4, 2, 2);
            Pictures.paint(x, 0, 2, 15, 1, 8, 0);
        });
        starts.put("read", x -> {
            x.begin(6, 8, 1, 2);
            Pictures.paint(x, 6, 1, 0, 0, 0, 0, 9, 9, 9, 9);
            x.write(false, 2);
            x.begin(0, 1, 1, 1);
            x.read();
        });
        starts.put("with a spoiled file", x -> {
            x.begin(0, 8, 4, 1);
            Pictures.paint(x, 0, 4, 1, 2, 3, 4);
            x.write(true, 4);
            x.poke(50, 77);
            x.read();
        });
        starts.put("with stray bytes", x -> {
            for (int b = 0; b < 13; b++) {
                x.append(b);
            }
        });
        return starts;
    }

    private void run() {
        begin();
        set();
        get();
        write();
        byteAt();
        poke();
        append();
        trim();
        seal();
        rows();
    }

    /** Promise 2: "false, changing nothing, when they are not as said above". */
    private void begin() {
        int[][] wrong = {
            {0, 8, 0, 1}, {0, 8, 9, 1}, {0, 8, 1, 0}, {0, 8, 1, 9}, {0, 8, -1, 1}, {0, 8, 1, -1},
            {6, 8, 0, 8}, {6, 8, 9, 8}, {6, 8, 8, 0}, {6, 8, 8, 9}, {0, 8, MIN, 1}, {0, 8, 1, MAX},
            {0, 0, 1, 1}, {0, 3, 1, 1}, {0, 5, 1, 1}, {0, 7, 1, 1}, {0, 9, 1, 1}, {0, 16, 1, 1},
            {0, -1, 1, 1}, {2, 1, 1, 1}, {2, 2, 1, 1}, {2, 4, 1, 1}, {2, 7, 1, 1}, {2, 9, 1, 1},
            {4, 4, 1, 1}, {4, 16, 1, 1}, {6, 4, 1, 1}, {6, 0, 1, 1}, {-2, 8, 1, 1}, {-1, 8, 1, 1},
            {1, 8, 1, 1}, {3, 8, 1, 1}, {5, 8, 1, 1}, {7, 8, 1, 1}, {8, 8, 1, 1}, {MIN, MIN, 1, 1}};
        for (int[] a : wrong) {
            Refusal.due(name + ": begin " + a[0] + "," + a[1] + "," + a[2] + "," + a[3], start,
                x -> x.begin(a[0], a[1], a[2], a[3]));
        }
    }

    /** Promise 4: "when there is no such sample or v is not 0 .. 2^depth - 1". */
    private void set() {
        int[][] wrong = {
            {-1, 0, 0, 0}, {w, 0, 0, 0}, {0, -1, 0, 0}, {0, h, 0, 0}, {0, 0, -1, 0}, {0, 0, s, 0},
            {w - 1, h, 0, 1}, {w, h - 1, 0, 1}, {w - 1, h - 1, s, 1}, {w, h, s, 1},
            {0, 0, 0, -1}, {0, 0, 0, most + 1}, {w - 1, h - 1, s - 1, -1},
            {w - 1, h - 1, s - 1, most + 1}, {w, 0, 0, most + 1}};
        for (int[] a : wrong) {
            Refusal.due(name + ": set " + a[0] + "," + a[1] + "," + a[2] + "," + a[3], start,
                x -> x.set(a[0], a[1], a[2], a[3]));
        }
        for (int far : FAR) {
            Refusal.due(name + ": set of column " + far, start, x -> x.set(far, 0, 0, 0));
            Refusal.due(name + ": set of row " + far, start, x -> x.set(0, far, 0, 0));
            Refusal.due(name + ": set of sample " + far, start, x -> x.set(0, 0, far, 0));
            Refusal.due(name + ": set of value " + far, start, x -> x.set(0, 0, 0, far));
        }
        SevenPassImage x = new SevenPassImage();
        start.accept(x);
        Checks.due(name + ": set of the last", x.set(w - 1, h - 1, s - 1, most), true);
        Checks.due(name + ": get of the last", x.get(w - 1, h - 1, s - 1), most);
        Checks.due(name + ": set of the first", x.set(0, 0, 0, 0), true);
        Checks.due(name + ": get of the first", x.get(0, 0, 0), 0);
    }

    /** Promise 5: "NONE when there is none". */
    private void get() {
        int[][] wrong = {
            {-1, 0, 0}, {w, 0, 0}, {0, -1, 0}, {0, h, 0}, {0, 0, -1}, {0, 0, s}, {w, h - 1, 0},
            {w - 1, h, 0}, {w - 1, h - 1, s}, {-1, 1, 0}, {MIN, MIN, MIN}, {MAX, MAX, MAX}};
        for (int[] a : wrong) {
            Refusal.due(name + ": get " + a[0] + "," + a[1] + "," + a[2], start,
                x -> x.get(a[0], a[1], a[2]), NONE);
        }
    }

    /** Promise 6: "NONE, changing nothing, when filter is not 0 .. 5". */
    private void write() {
        for (int filter : new int[] {-1, 6, -2, 7, 255, MIN, MAX}) {
            Refusal.due(name + ": write in one by " + filter, start,
                x -> x.write(false, filter), NONE);
            Refusal.due(name + ": write in seven by " + filter, start,
                x -> x.write(true, filter), NONE);
        }
        for (int filter = 0; filter <= 5; filter++) {
            SevenPassImage x = new SevenPassImage();
            start.accept(x);
            Checks.due(name + ": write by " + filter, x.write(false, filter), x.length());
        }
    }

    /** Promise 9: "NONE when there is none". */
    private void byteAt() {
        Refusal.due(name + ": byteAt -1", start, x -> x.byteAt(-1), NONE);
        Refusal.due(name + ": byteAt of the end", start, x -> x.byteAt(length), NONE);
        for (int far : FAR) {
            Refusal.due(name + ": byteAt " + far, start, x -> x.byteAt(far), NONE);
        }
    }

    /** Promise 10: "when there is none or b is not 0 .. 255". */
    private void poke() {
        for (int b : new int[] {-1, 0, 255, 256}) {
            Refusal.due(name + ": poke -1," + b, start, x -> x.poke(-1, b));
            Refusal.due(name + ": poke of the end," + b, start, x -> x.poke(length, b));
        }
        for (int b : new int[] {-1, 256, -256, MIN, MAX}) {
            Refusal.due(name + ": poke 0," + b, start, x -> x.poke(0, b));
            Refusal.due(name + ": poke of the last byte," + b, start, x -> x.poke(length - 1, b));
        }
        for (int far : FAR) {
            Refusal.due(name + ": poke " + far, start, x -> x.poke(far, 1));
        }
        if (length > 0) {
            SevenPassImage x = new SevenPassImage();
            start.accept(x);
            Checks.due(name + ": poke of the last byte", x.poke(length - 1, 255), true);
            Checks.due(name + ": poke of the first byte", x.poke(0, 0), true);
            Checks.due(name + ": the first byte", x.byteAt(0), 0);
            Checks.due(name + ": the last byte", x.byteAt(length - 1), 255);
        }
    }

    /** Promise 11: "when b is not 0 .. 255" (700 bytes are in TermsFileTest). */
    private void append() {
        for (int b : new int[] {-1, 256, -256, 257, 511, MIN, MAX}) {
            Refusal.due(name + ": append " + b, start, x -> x.append(b));
        }
        for (int b : new int[] {0, 255}) {
            SevenPassImage x = new SevenPassImage();
            start.accept(x);
            Checks.due(name + ": append " + b, x.append(b), true);
            Checks.due(name + ": length", x.length(), length + 1);
            Checks.due(name + ": the last byte", x.byteAt(length), b);
        }
    }

    /** Promise 12: "when n is below 0 or above length()". */
    private void trim() {
        Refusal.due(name + ": trim -1", start, x -> x.trim(-1));
        Refusal.due(name + ": trim to one more", start, x -> x.trim(length + 1));
        for (int far : FAR) {
            Refusal.due(name + ": trim " + far, start, x -> x.trim(far));
        }
        SevenPassImage x = new SevenPassImage();
        start.accept(x);
        Checks.due(name + ": trim to all", x.trim(length), true);
        Checks.due(name + ": length", x.length(), length);
        Checks.due(name + ": trim to 0", x.trim(0), true);
        Checks.due(name + ": length", x.length(), 0);
    }

    /** Promise 13: "otherwise false, changing nothing". */
    private void seal() {
        Refusal.due(name + ": seal -1", start, x -> x.seal(-1));
        for (int k = length - 11; k <= length + 1; k++) {
            int at = k;
            Refusal.due(name + ": seal where fewer than 12 bytes are", start, x -> x.seal(at));
        }
        for (int far : FAR) {
            Refusal.due(name + ": seal " + far, start, x -> x.seal(far));
        }
        if (length > 40) {
            // The eight bytes and the middle of HEAD, read as numbers, are far too great.
            for (int k : new int[] {0, 1, 9, 10, 11, 12, 13, 14}) {
                Refusal.due(name + ": seal " + k, start, x -> x.seal(k));
            }
        }
    }

    /** Promise 14: "NONE when filter is not 0 .. 4". */
    private void rows() {
        for (int filter : new int[] {-1, 5, -5, 6, 255, MIN, MAX}) {
            Refusal.due(name + ": rows " + filter, start, x -> x.rows(filter), NONE);
        }
    }
}
