import java.util.ArrayList;
import java.util.Arrays;
import java.util.List;

/** PASSES: the points of each pass as far as the picture goes; passes without points. */
public final class TermsPassesTest {
    /** The pass of each point, row by row: the document's numbers drawn out by hand. */
    private static final String[] PASS_OF = {
        "05351535",
        "66666666",
        "45454545",
        "66666666",
        "25352535",
        "66666666",
        "45454545",
        "66666666"};

    public static void main(String[] args) {
        wholePictureInOnePass();
        pointsOfEachPass();
        asFarAsThePictureGoes();
        passWithoutPointsHasNoRows();
        noFilterForAnEmptyPass();
        nothingAboveAPass();
        Checks.end();
    }

    private static int[] numbered(int w, int h) {
        int[] samples = new int[w * h];
        for (int k = 0; k < samples.length; k++) {
            samples[k] = 16 * (k % w) + k / w + 1;
        }
        return samples;
    }

    private static int[] array(List<Integer> list) {
        return list.stream().mapToInt(Integer::intValue).toArray();
    }

    /** The data of numbered(w, h) in seven passes, all rows by filter 0, from the drawing. */
    private static int[] inSeven(int w, int h) {
        List<Integer> data = new ArrayList<>();
        for (char pass = '0'; pass <= '6'; pass++) {
            for (int y = 0; y < h; y++) {
                List<Integer> row = new ArrayList<>();
                for (int x = 0; x < w; x++) {
                    if (PASS_OF[y].charAt(x) == pass) {
                        row.add(16 * x + y + 1);
                    }
                }
                if (!row.isEmpty()) {
                    data.add(0);
                    data.addAll(row);
                }
            }
        }
        return array(data);
    }

    private static int[] inOne(int w, int h) {
        List<Integer> data = new ArrayList<>();
        for (int y = 0; y < h; y++) {
            data.add(0);
            for (int x = 0; x < w; x++) {
                data.add(16 * x + y + 1);
            }
        }
        return array(data);
    }

    /** "In one pass: the whole picture." */
    private static void wholePictureInOnePass() {
        for (int w = 1; w <= 8; w++) {
            for (int h = 1; h <= 8; h++) {
                SevenPassImage x = Pictures.grey(w, numbered(w, h));
                x.write(false, 0);
                Written.dueData(w + " by " + h + " in one", x, inOne(w, h));
                Checks.due("rows of " + w + " by " + h, x.rows(0), h);
                dueRead(w, h, false, inOne(w, h));
            }
        }
    }

    /** "In seven: pass 0 .. 6 has the points .. as far as the picture goes": every size. */
    private static void pointsOfEachPass() {
        for (int w = 1; w <= 8; w++) {
            for (int h = 1; h <= 8; h++) {
                SevenPassImage x = Pictures.grey(w, numbered(w, h));
                x.write(true, 0);
                int[] data = inSeven(w, h);
                Written.dueData(w + " by " + h + " in seven", x, data);
                Checks.due("rows of " + w + " by " + h, x.rows(0), data.length - w * h);
                dueRead(w, h, true, data);
            }
        }
    }

    private static void dueRead(int w, int h, boolean seven, int[] data) {
        byte[] head = Chunks.head(0, 8, w, h, seven);
        String what = w + " by " + h + " in " + (seven ? "seven" : "one");
        SevenPassImage x = Chunks.holding(
            Chunks.whole(head, new PackedData().plain(true, data).bytes()));
        Checks.due("read of " + what, x.read(), 0);
        Pictures.dueSamples(what, x, numbered(w, h));
        int[] fewer = Arrays.copyOf(data, data.length - 1);
        int[] more = Arrays.copyOf(data, data.length + 1);
        Checks.due("a byte too few for " + what, Chunks.read(
            Chunks.whole(head, new PackedData().plain(true, fewer).bytes())), SevenPassImage.ROWS);
        Checks.due("a byte too many for " + what, Chunks.read(
            Chunks.whole(head, new PackedData().plain(true, more).bytes())), SevenPassImage.ROWS);
    }

    /** Each pass's second column and row, and the pictures that end just before them. */
    private static void asFarAsThePictureGoes() {
        dueInSeven(8, 1, "0 1, 0 65, 0 33 97, 0 17 49 81 113");
        dueInSeven(7, 1, "0 1, 0 65, 0 33 97, 0 17 49 81");
        dueInSeven(6, 1, "0 1, 0 65, 0 33, 0 17 49 81");
        dueInSeven(5, 1, "0 1, 0 65, 0 33, 0 17 49");
        dueInSeven(4, 1, "0 1, 0 33, 0 17 49");
        dueInSeven(3, 1, "0 1, 0 33, 0 17");
        dueInSeven(2, 1, "0 1, 0 17");
        dueInSeven(1, 8, "0 1, 0 5, 0 3, 0 7, 0 2, 0 4, 0 6, 0 8");
        dueInSeven(1, 7, "0 1, 0 5, 0 3, 0 7, 0 2, 0 4, 0 6");
        dueInSeven(1, 6, "0 1, 0 5, 0 3, 0 2, 0 4, 0 6");
        dueInSeven(1, 5, "0 1, 0 5, 0 3, 0 2, 0 4");
        dueInSeven(1, 4, "0 1, 0 3, 0 2, 0 4");
        dueInSeven(1, 3, "0 1, 0 3, 0 2");
        dueInSeven(1, 2, "0 1, 0 2");
        dueInSeven(1, 1, "0 1");
        dueInSeven(5, 5, "0 1, 0 65, 0 5 69, 0 33, 0 37, 0 3 35 67, 0 17 49, 0 19 51, 0 21 53,"
            + " 0 2 18 34 50 66, 0 4 20 36 52 68");
        dueInSeven(4, 5, "0 1, 0 5, 0 33, 0 37, 0 3 35, 0 17 49, 0 19 51, 0 21 53,"
            + " 0 2 18 34 50, 0 4 20 36 52");
    }

    private static void dueInSeven(int w, int h, String rows) {
        int[] data = Arrays.stream(rows.split("[ ,]+")).mapToInt(Integer::parseInt).toArray();
        SevenPassImage x = Pictures.grey(w, numbered(w, h));
        x.write(true, 0);
        Written.dueData(w + " by " + h, x, data);
        Checks.due("rows of " + w + " by " + h, x.rows(0), rows.split(",").length);
    }

    /** "A pass without points has no rows": the least picture of each pass, and one side less. */
    private static void passWithoutPointsHasNoRows() {
        int[][] least = {{1, 1}, {5, 1}, {1, 5}, {3, 1}, {1, 3}, {2, 1}, {1, 2}};
        int[] rows = {1, 4, 5, 3, 3, 2, 2};
        int[] rowsWithout = {0, 3, 4, 2, 2, 1, 1};
        for (int pass = 1; pass < 7; pass++) {
            int w = least[pass][0];
            int h = least[pass][1];
            for (int[] kind : Pictures.KINDS) {
                SevenPassImage x = new SevenPassImage();
                x.begin(kind[0], kind[1], w, h);
                x.write(true, 2);
                Checks.due("rows with pass " + pass, x.rows(2), rows[pass]);
                Checks.due("read", x.read(), 0);
                Checks.due("rows read", x.rows(2), rows[pass]);
                x.begin(kind[0], kind[1], w > 1 ? w - 1 : w, h > 1 ? h - 1 : h);
                x.write(true, 2);
                Checks.due("rows without pass " + pass, x.rows(2), rowsWithout[pass]);
                Checks.due("read", x.read(), 0);
                Checks.due("rows read", x.rows(2), rowsWithout[pass]);
            }
        }
    }

    /** In reading: a filter's number where the pass has no points is one byte too many. */
    private static void noFilterForAnEmptyPass() {
        byte[] head = Chunks.head(0, 8, 1, 1, true);
        Checks.due("one point", Chunks.read(
            Chunks.whole(head, new PackedData().plain(true, 0, 9).bytes())), 0);
        for (int empty = 1; empty <= 6; empty++) {
            int[] data = new int[2 + empty];
            data[1] = 9;
            Checks.due("one point with " + empty + " empty rows", Chunks.read(
                Chunks.whole(head, new PackedData().plain(true, data).bytes())),
                SevenPassImage.ROWS);
        }
        // A picture of 4 columns has no pass 1, whose filter would stand behind the first point.
        Checks.due("4 by 1", Chunks.read(Chunks.whole(Chunks.head(0, 8, 4, 1, true),
            new PackedData().plain(true, 0, 1, 0, 3, 0, 2, 4).bytes())), 0);
        Checks.due("4 by 1 with a row of pass 1", Chunks.read(
            Chunks.whole(Chunks.head(0, 8, 4, 1, true),
            new PackedData().plain(true, 0, 1, 0, 0, 3, 0, 2, 4).bytes())), SevenPassImage.ROWS);
    }

    /** "the row above it in the same pass": a pass's first row has none, whatever came before. */
    private static void nothingAboveAPass() {
        int[] nines = new int[64];
        Arrays.fill(nines, 9);
        SevenPassImage x = Pictures.grey(8, nines);
        x.write(true, 2);
        Written.dueData("filter 2 in seven", x,
            2, 9,
            2, 9,
            2, 9, 9,
            2, 9, 9, 2, 0, 0,
            2, 9, 9, 9, 9, 2, 0, 0, 0, 0,
            2, 9, 9, 9, 9, 2, 0, 0, 0, 0, 2, 0, 0, 0, 0, 2, 0, 0, 0, 0,
            2, 9, 9, 9, 9, 9, 9, 9, 9, 2, 0, 0, 0, 0, 0, 0, 0, 0,
            2, 0, 0, 0, 0, 0, 0, 0, 0, 2, 0, 0, 0, 0, 0, 0, 0, 0);
        Checks.due("read", x.read(), 0);
        Pictures.dueSamples("filter 2 in seven", x, nines);
        SevenPassImage y = Pictures.grey(8, nines);
        y.write(true, 3);
        // Half of a, half of b, or of both: 9 - 4, 9 - 9.
        Written.dueData("filter 3 in seven", y,
            3, 9,
            3, 9,
            3, 9, 5,
            3, 9, 5, 3, 5, 0,
            3, 9, 5, 5, 5, 3, 5, 0, 0, 0,
            3, 9, 5, 5, 5, 3, 5, 0, 0, 0, 3, 5, 0, 0, 0, 3, 5, 0, 0, 0,
            3, 9, 5, 5, 5, 5, 5, 5, 5, 3, 5, 0, 0, 0, 0, 0, 0, 0,
            3, 5, 0, 0, 0, 0, 0, 0, 0, 3, 5, 0, 0, 0, 0, 0, 0, 0);
        SevenPassImage z = Pictures.grey(8, nines);
        z.write(true, 4);
        Written.dueData("filter 4 in seven", z,
            4, 9,
            4, 9,
            4, 9, 0,
            4, 9, 0, 4, 0, 0,
            4, 9, 0, 0, 0, 4, 0, 0, 0, 0,
            4, 9, 0, 0, 0, 4, 0, 0, 0, 0, 4, 0, 0, 0, 0, 4, 0, 0, 0, 0,
            4, 9, 0, 0, 0, 0, 0, 0, 0, 4, 0, 0, 0, 0, 0, 0, 0, 0,
            4, 0, 0, 0, 0, 0, 0, 0, 0, 4, 0, 0, 0, 0, 0, 0, 0, 0);
    }
}
