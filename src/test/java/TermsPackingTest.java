import java.util.Arrays;

/** PACKING: one last block of form 1; the longest copy, the least distance, their codes. */
public final class TermsPackingTest {
    private static final int[] LENGTHS = {3, 4, 5, 6, 7, 8, 9, 10, 11, 13, 15, 17, 19, 23, 27, 31,
        35, 43, 51, 59, 67, 83, 99, 115, 131, 163, 195, 227, 258};
    private static final int[] DISTANCES = {1, 2, 3, 4, 5, 7, 9, 13, 17, 25, 33, 49, 65, 97, 129,
        193, 257};

    public static void main(String[] args) {
        oneLastBlockOfFormOne();
        threeBytesOrMore();
        longestCopy();
        longestAtEachPlace();
        overThePlace();
        insideTheData();
        leastOfSeveralDistances();
        upToThePlace();
        eachDistance();
        eachLength();
        longerThan258();
        overTheRowsAndPasses();
        Checks.end();
    }

    /** A picture of one row with these samples, written by filter 0. */
    private static void due(String what, int kind, int[] samples, PackedData want, int copies) {
        SevenPassImage x = Pictures.of(kind, 8, samples.length / Pictures.perPoint(kind), samples);
        x.write(false, 0);
        Written.duePacked(what, x, want.end(), copies);
    }

    private static PackedData start(int... literals) {
        return new PackedData().block(true, 1).literals(literals);
    }

    /** "one block, the last, of form 1": 1, then 1 and 0. */
    private static void oneLastBlockOfFormOne() {
        for (int[] kind : Pictures.KINDS) {
            for (int side : new int[] {1, 8}) {
                for (int filter = 0; filter <= 5; filter++) {
                    SevenPassImage x = new SevenPassImage();
                    x.begin(kind[0], kind[1], side, side);
                    x.write(filter % 2 == 0, filter);
                    Checks.due("the first three bits", x.byteAt(Written.PACKED_AT + 2) % 8, 3);
                }
            }
        }
    }

    /** "when it has 3 bytes or more it is written, .. otherwise the byte". */
    private static void threeBytesOrMore() {
        due("no byte comes again", 0, new int[] {7, 8, 9, 10}, start(0, 7, 8, 9, 10), 0);
        due("one byte comes again", 0, new int[] {7, 8, 9, 7}, start(0, 7, 8, 9, 7), 0);
        due("two bytes come again", 0, new int[] {7, 8, 9, 7, 8}, start(0, 7, 8, 9, 7, 8), 0);
        due("two bytes and an other", 0, new int[] {7, 8, 9, 7, 8, 1}, start(0, 7, 8, 9, 7, 8, 1),
            0);
        due("three bytes come again", 0, new int[] {7, 8, 9, 7, 8, 9}, start(0, 7, 8, 9)
            .copy(257, 0, 0, 2, 0, 0).gives(3, 3), 1);
        due("three bytes and an other", 0, new int[] {7, 8, 9, 7, 8, 9, 1}, start(0, 7, 8, 9)
            .copy(257, 0, 0, 2, 0, 0).gives(3, 3).literals(1), 1);
        due("two zeros behind one", 0, new int[] {0, 0}, start(0, 0, 0), 0);
        due("three zeros behind one", 0, new int[] {0, 0, 0}, start(0)
            .copy(257, 0, 0, 0, 0, 0).gives(3, 1), 1);
    }

    /** "the longest copy": farther off than a shorter one. */
    private static void longestCopy() {
        SevenPassImage x = Pictures.grey(8, 1, 2, 3, 4, 9, 1, 2, 3, 5, 1, 2, 3, 4, 6, 6, 8);
        x.write(false, 0);
        Written.duePacked("four from 10 before three from 5", x, start(0, 1, 2, 3, 4, 9)
            .copy(257, 0, 0, 4, 0, 1).gives(3, 5).literals(0, 5)
            .copy(258, 0, 0, 6, 1, 2).gives(4, 10).literals(6, 6, 8).end(), 2);
        // The longer one lies nearer here.
        due("five from 6 before four from 11", 2,
            new int[] {1, 2, 3, 4, 8, 1, 2, 3, 4, 5, 9, 1, 2, 3, 4, 5, 6, 7},
            start(0, 1, 2, 3, 4, 8).copy(258, 0, 0, 4, 0, 1).gives(4, 5).literals(5, 9)
                .copy(259, 0, 0, 4, 1, 1).gives(5, 6).literals(6, 7), 2);
    }

    /** "At each place": three bytes now, though a byte and six more would be fewer codes. */
    private static void longestAtEachPlace() {
        due("no place is passed over for a longer copy behind it", 2,
            new int[] {1, 2, 3, 9, 2, 3, 4, 5, 6, 7, 8, 1, 2, 3, 4, 5, 6, 7},
            start(0, 1, 2, 3, 9, 2, 3, 4, 5, 6, 7, 8).copy(257, 0, 0, 6, 2, 2).gives(3, 11)
                .copy(258, 0, 0, 5, 1, 1).gives(4, 8), 2);
    }

    /** "(it may go on over the place)". */
    private static void overThePlace() {
        due("seven from one", 0, new int[] {5, 5, 5, 5, 5, 5, 5, 5}, start(0, 5)
            .copy(261, 0, 0, 0, 0, 0).gives(7, 1), 1);
        due("six from two", 0, new int[] {5, 6, 5, 6, 5, 6, 5, 6}, start(0, 5, 6)
            .copy(260, 0, 0, 1, 0, 0).gives(6, 2), 1);
        due("five from three", 0, new int[] {5, 6, 7, 5, 6, 7, 5, 6}, start(0, 5, 6, 7)
            .copy(259, 0, 0, 2, 0, 0).gives(5, 3), 1);
        due("four from four", 0, new int[] {5, 6, 7, 8, 5, 6, 7, 8}, start(0, 5, 6, 7, 8)
            .copy(258, 0, 0, 3, 0, 0).gives(4, 4), 1);
    }

    /** "inside the data": a copy ends where they end, though it could go on. */
    private static void insideTheData() {
        int[][] kinds = {{0, 1}, {2, 3}, {4, 2}, {6, 4}};
        for (int[] kind : kinds) {
            for (int w = 1; w <= 8; w++) {
                int rest = w * kind[1];
                if (rest >= 3) {
                    due("zeros up to the end", kind[0], new int[rest], withLength(start(0), rest),
                        1);
                }
            }
        }
    }

    /** A copy of bytes like the one before it. */
    private static PackedData withLength(PackedData packed, int length) {
        int at = lastNotAbove(LENGTHS, length);
        int bits = at < 8 || at == 28 ? 0 : at / 4 - 1;
        return packed.copy(257 + at, length - LENGTHS[at], bits, 0, 0, 0).gives(length, 1);
    }

    private static int lastNotAbove(int[] table, int number) {
        int at = 0;
        while (at + 1 < table.length && table[at + 1] <= number) {
            at++;
        }
        return at;
    }

    /** "of several distances the least". */
    private static void leastOfSeveralDistances() {
        due("4 rather than 8", 2, new int[] {1, 2, 3, 9, 1, 2, 3, 8, 1, 2, 3, 7},
            start(0, 1, 2, 3, 9).copy(257, 0, 0, 3, 0, 0).gives(3, 4).literals(8)
                .copy(257, 0, 0, 3, 0, 0).gives(3, 4).literals(7), 2);
        // Zeros come again from every distance.
        due("1 rather than 2 to 5", 0, new int[] {9, 0, 0, 0, 0, 0, 0, 0},
            start(0, 9, 0).copy(260, 0, 0, 0, 0, 0).gives(6, 1), 1);
        due("2 rather than 4", 0, new int[] {5, 6, 5, 6, 5, 6, 5},
            start(0, 5, 6).copy(259, 0, 0, 1, 0, 0).gives(5, 2), 1);
    }

    /** "from any distance up to the place": the very first byte begins the copy. */
    private static void upToThePlace() {
        SevenPassImage x = Pictures.grey(2, 5, 6, 5, 6);
        x.write(false, 0);
        Written.duePacked("distance 3 at place 3", x, start(0, 5, 6).copy(257, 0, 0, 2, 0, 0)
            .gives(3, 3).end(), 1);
        SevenPassImage y = Pictures.grey(7, 1, 2, 3, 4, 5, 6, 7, 1, 2, 3, 4, 5, 6, 7);
        y.write(false, 0);
        Written.duePacked("distance 8 at place 8", y, start(0, 1, 2, 3, 4, 5, 6, 7)
            .copy(262, 0, 0, 5, 1, 1).gives(8, 8).end(), 1);
        Checks.due("the greatest distance begins the data",
            new Repeats(Repeats.MOST_DISTANCE).place, Repeats.MOST_DISTANCE);
    }

    /** "the t that have its .. distance": every one that a picture in one pass can have. */
    private static void eachDistance() {
        for (int d = 1; d <= Repeats.MOST_DISTANCE; d++) {
            Repeats repeats = new Repeats(d);
            int t = lastNotAbove(DISTANCES, d);
            int bits = t < 4 ? 0 : t / 2 - 1;
            byte[] want = repeats.packed(t, d - DISTANCES[t], bits, d).bytes();
            dueGreat("distance " + d, repeats.samples(), want, 1);
        }
    }

    /** A colour picture with a mask, eight by eight, in one pass and by filter 0. */
    private static void dueGreat(String what, int[] samples, byte[] want, int copies) {
        byte[] file = Written.file(x -> {
            x.begin(6, 8, 8, 8);
            Pictures.paint(x, 6, 8, samples);
            Checks.due(what + ": write", x.write(false, 0), want.length + 57);
            Checks.due(what + ": copies", x.copies(), copies);
        }, 300);
        Checks.due(what, Arrays.toString(Written.packed(file)), Arrays.toString(want));
    }

    /** "the code of 257 .. 285 .. that have its length": every length, from distance 1. */
    private static void eachLength() {
        for (int length = 3; length <= 258; length++) {
            int[] data = new int[Repeats.SIZE];
            PackedData want = start(0);
            int from = length + 1;
            if (from % 33 == 0) {
                // There a row's filter number, 0 as well, would make it longer.
                data[1] = 255;
                want.literals(255, 0);
                from = length + 3;
            }
            withLength(want, length);
            int next = 1;
            for (int k = from; k < data.length; k++) {
                data[k] = k % 33 == 0 ? 0 : next;
                next += k % 33 == 0 ? 0 : 1;
                want.literals(data[k]);
            }
            dueGreat("length " + length, samplesOf(data), want.end().bytes(), 1);
        }
    }

    private static int[] samplesOf(int[] data) {
        int[] samples = new int[256];
        for (int k = 0; k < 256; k++) {
            samples[k] = data[k + k / 32 + 1];
        }
        return samples;
    }

    /** "of at most 258 bytes .. (length 258: 285)": 259 to 263 zeros behind the first. */
    private static void longerThan258() {
        for (int zeros = 257; zeros <= 263; zeros++) {
            int[] data = new int[Repeats.SIZE];
            PackedData want = withLength(start(0), Math.min(258, zeros));
            int copies = 1;
            int rest = Math.max(0, zeros - 258);
            if (rest >= 3) {
                withLength(want, rest);
                copies++;
            } else {
                want.literals(new int[rest]);
            }
            for (int k = zeros + 1; k < data.length; k++) {
                data[k] = k - zeros;
                want.literals(data[k]);
            }
            dueGreat(zeros + " zeros", samplesOf(data), want.end().bytes(), copies);
        }
        PackedData most = new PackedData().block(true, 1).literals(0).copy(285, 0, 0, 0, 0, 0)
            .gives(258, 1).copy(259, 0, 0, 0, 0, 0).gives(5, 1).end();
        dueGreat("zeros alone", new int[256], most.bytes(), 2);
    }

    /** The data are one row of bytes: a copy may reach over rows, passes and filter numbers. */
    private static void overTheRowsAndPasses() {
        int[] zeros = new int[64];
        SevenPassImage x = Pictures.grey(8, zeros);
        x.write(true, 0);
        Written.duePacked("15 rows of seven passes", x, withLength(start(0), 78).end(), 1);
        SevenPassImage y = Pictures.grey(8, zeros);
        y.write(false, 3);
        Written.duePacked("8 rows by filter 3", y, start(3, 0).copy(261, 0, 0, 0, 0, 0).gives(7, 1)
            .copy(276, 4, 3, 6, 0, 2).gives(63, 9).end(), 2);
    }
}
