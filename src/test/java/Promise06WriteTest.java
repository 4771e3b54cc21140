import java.util.Arrays;
import java.util.zip.DataFormatException;
import java.util.zip.Inflater;

/** Promise 6: write, looked at with the library's inflater and checksums. */
public final class Promise06WriteTest {
    public static void main(String[] args) {
        wrongFilters();
        wholeFile();
        filters();
        nearestInOrder();
        leastSum();
        sevenPasses();
        passesWithoutPoints();
        packing();
        longCopies();
        copiesOfEachLength();
        formerFileIsGone();
        Checks.end();
    }

    private static byte[] fileOf(SevenPassImage x) {
        byte[] file = new byte[x.length()];
        for (int k = 0; k < file.length; k++) {
            file[k] = (byte) x.byteAt(k);
        }
        return file;
    }

    /** The data of a written file. */
    private static byte[] dataOf(SevenPassImage x) {
        byte[] file = fileOf(x);
        Inflater inflater = new Inflater();
        byte[] data = new byte[1000];
        int size = -1;
        try {
            inflater.setInput(file, 41, file.length - 41 - 16);
            size = inflater.inflate(data);
            Checks.due("inflated to its end", inflater.finished(), true);
            Checks.due("bytes left", inflater.getRemaining(), 0);
        } catch (DataFormatException refused) {
            Checks.due("packed data refused: " + refused.getMessage(), 1, 0);
        }
        inflater.end();
        return Arrays.copyOf(data, Math.max(0, size));
    }

    private static void dueData(String what, SevenPassImage x, int... want) {
        byte[] data = dataOf(x);
        Checks.due(what + " gave " + Arrays.toString(data) + ", due are " + Arrays.toString(want),
            Arrays.equals(data, Chunks.bytes(want)), true);
    }

    /** A picture of kind 0 and depth 8 with these samples, row by row. */
    private static SevenPassImage grey(int w, int... samples) {
        SevenPassImage x = new SevenPassImage();
        x.begin(0, 8, w, samples.length / w);
        for (int k = 0; k < samples.length; k++) {
            Checks.due("set", x.set(k % w, k / w, 0, samples[k]), true);
        }
        return x;
    }

    private static void wrongFilters() {
        SevenPassImage x = grey(2, 1, 2);
        int length = x.write(false, 1);
        int[] wrong = {Integer.MIN_VALUE, -1, 6, 7, Integer.MAX_VALUE};
        for (int filter : wrong) {
            Checks.due("write " + filter, x.write(true, filter), SevenPassImage.NONE);
        }
        Checks.due("length", x.length(), length);
        Checks.due("rows", x.rows(1), 1);
        Checks.due("one pass still", x.byteAt(28), 0);
    }

    private static void wholeFile() {
        for (int way = 0; way < 2; way++) {
            SevenPassImage x = new SevenPassImage();
            x.begin(4, 8, 2, 1);
            x.set(0, 0, 0, 150);
            x.set(0, 0, 1, 143);
            x.set(1, 0, 0, 144);
            x.set(1, 0, 1, 255);
            PackedData packed = new PackedData().block(true, 1);
            if (way == 0) {
                packed.literals(0, 150, 143, 144, 255).end();
            } else {
                packed.literals(0, 150, 143, 0, 144, 255).end();
            }
            byte[] want = Chunks.whole(Chunks.head(4, 8, 2, 1, way == 1), packed.bytes());
            Checks.due("write", x.write(way == 1, 0), want.length);
            Checks.due("the file of way " + way, Arrays.equals(fileOf(x), want), true);
        }
    }

    private static void filters() {
        SevenPassImage x = grey(3, 10, 200, 30, 250, 5, 90);
        x.write(false, 0);
        dueData("filter 0", x, 0, 10, 200, 30, 0, 250, 5, 90);
        x.write(false, 1);
        dueData("filter 1", x, 1, 10, 190, 86, 1, 250, 11, 85);
        x.write(false, 2);
        dueData("filter 2", x, 2, 10, 200, 30, 2, 240, 61, 60);
        x.write(false, 3);
        dueData("filter 3", x, 3, 10, 195, 186, 3, 245, 36, 73);
        x.write(false, 4);
        // Second row: from 0, 10, 0 the 10; from 250, 200, 10 (440) the 250; from 5, 30, 200
        // (-165) the 5.
        dueData("filter 4", x, 4, 10, 190, 86, 4, 240, 11, 85);
        // A unit of three bytes.
        SevenPassImage y = new SevenPassImage();
        y.begin(2, 8, 2, 1);
        y.set(0, 0, 0, 9);
        y.set(1, 0, 0, 10);
        y.set(1, 0, 2, 3);
        y.write(false, 1);
        dueData("filter 1 of colour", y, 1, 9, 0, 0, 1, 0, 3);
        // A unit is a byte at least, however few bits a sample has.
        SevenPassImage z = new SevenPassImage();
        z.begin(0, 2, 6, 1);
        for (int k = 0; k < 6; k++) {
            z.set(k, 0, 0, k % 4);
        }
        z.write(false, 1);
        dueData("filter 1 of two bits", z, 1, 27, 16 - 27);
    }

    private static void nearestInOrder() {
        // a, b, c = 10, 30, 20: aim 20, so c is the nearest.
        SevenPassImage x = grey(2, 20, 30, 10, 99);
        x.write(false, 4);
        dueData("nearest is c", x, 4, 20, 10, 4, 246, 79);
        // a, b, c = 4, 6, 4: aim 6, so b.
        SevenPassImage y = grey(2, 4, 6, 4, 50);
        y.write(false, 4);
        dueData("nearest is b", y, 4, 4, 2, 4, 0, 44);
        // a, b, c = 8, 6, 10: aim 4; b is 2 off, a 4, c 6.
        SevenPassImage z = grey(2, 10, 6, 8, 50);
        z.write(false, 4);
        dueData("nearest is b again", z, 4, 10, 252, 4, 254, 44);
        // a, b, c = 6, 9, 9: aim 6, so a.
        SevenPassImage u = grey(2, 9, 9, 6, 50);
        u.write(false, 4);
        dueData("nearest is a", u, 4, 9, 0, 4, 253, 44);
        // a, b, c = 1, 4, 3: aim 2; b is 2 off, a and c 1: a.
        SevenPassImage v = grey(2, 3, 4, 1, 50);
        v.write(false, 4);
        dueData("a before c", v, 4, 3, 1, 4, 254, 49);
        // a, b, c = 4, 1, 3: aim 2; a is 2 off, b and c 1: b.
        SevenPassImage t = grey(2, 3, 1, 4, 50);
        t.write(false, 4);
        dueData("b before c", t, 4, 3, 254, 4, 1, 49);
        // Before the row's beginning a and c are 0, so b is taken, however small it is.
        SevenPassImage edge = grey(1, 1, 9, 2, 9);
        edge.write(false, 4);
        dueData("b at the beginning", edge, 4, 1, 4, 8, 4, 249, 4, 7);
    }

    private static void leastSum() {
        SevenPassImage x = grey(3, 100, 101, 102, 100, 101, 102, 0, 0, 0, 1, 255, 1);
        x.write(false, 5);
        // Row 1 by filter 1; row 2 by 2; row 3 by 0; row 4 by 0: 255 counts as -1.
        dueData("least sums", x, 1, 100, 1, 1, 2, 0, 0, 0, 0, 0, 0, 0, 0, 1, 255, 1);
        Checks.due("rows 0", x.rows(0), 2);
        Checks.due("rows 1", x.rows(1), 1);
        Checks.due("rows 2", x.rows(2), 1);
        // 128 has size 128 by every filter: the least filter is taken.
        dueChosen("of several the least", grey(1, 128), 0, 128);
        // By filter 0 the sizes are 1 and 1, by filter 1 they are 1 and 0.
        dueChosen("255 is -1", grey(2, 255, 255), 1, 255, 0);
        // The second row by filter 0: 255 of size 1; by filter 2: 1 of size 1.
        dueChosen("1 and -1 are as great", grey(1, 254, 255), 0, 254, 0, 255);
        // The second row by filter 0: 254 of size 2; by filter 2: 1 of size 1.
        dueChosen("1 is less than -2", grey(1, 253, 254), 0, 253, 2, 1);
        // The second row by filter 0: 5 and 0; by filter 2: 0 and 0.
        dueChosen("the first byte counts", grey(2, 5, 0, 5, 0), 0, 5, 0, 2, 0, 0);
        // The second row by filter 0: 129 of size 127; by filter 2: 126.
        dueChosen("129 is -127", grey(1, 3, 129), 0, 3, 2, 126);
        // The second row by filter 0: 130 of size 126; by filter 3: 129 of 127; by filter 2: 128.
        dueChosen("130 is -126", grey(1, 2, 130), 0, 2, 0, 130);
        leastOfAllFive();
    }

    private static void dueChosen(String what, SevenPassImage x, int... data) {
        x.write(false, 5);
        dueData(what, x, data);
    }

    private static void leastOfAllFive() {
        SevenPassImage z = grey(4, 8, 40, 20, 60, 10, 38, 24, 58);
        z.write(false, 5);
        int[] sums = new int[5];
        for (int filter = 0; filter < 5; filter++) {
            SevenPassImage one = grey(4, 8, 40, 20, 60, 10, 38, 24, 58);
            one.write(false, filter);
            byte[] data = dataOf(one);
            for (int k = 6; k < 10; k++) {
                sums[filter] += Math.abs((int) data[k]);
            }
        }
        int used = dataOf(z)[5];
        for (int filter = 0; filter < 5; filter++) {
            boolean better = filter < used ? sums[filter] <= sums[used] : sums[filter] < sums[used];
            Checks.due("filter " + filter + " instead of " + used, better, false);
        }
    }

    private static void sevenPasses() {
        SevenPassImage x = new SevenPassImage();
        x.begin(0, 8, 8, 8);
        for (int k = 0; k < 64; k++) {
            x.set(k % 8, k / 8, 0, 16 * (k % 8) + k / 8);
        }
        x.write(true, 0);
        // A sample's tens of hexadecimal are its column, the ones its row.
        dueData("seven passes", x,
            0, 0x00,
            0, 0x40,
            0, 0x04, 0x44,
            0, 0x20, 0x60, 0, 0x24, 0x64,
            0, 0x02, 0x22, 0x42, 0x62, 0, 0x06, 0x26, 0x46, 0x66,
            0, 0x10, 0x30, 0x50, 0x70, 0, 0x12, 0x32, 0x52, 0x72,
            0, 0x14, 0x34, 0x54, 0x74, 0, 0x16, 0x36, 0x56, 0x76,
            0, 0x01, 0x11, 0x21, 0x31, 0x41, 0x51, 0x61, 0x71,
            0, 0x03, 0x13, 0x23, 0x33, 0x43, 0x53, 0x63, 0x73,
            0, 0x05, 0x15, 0x25, 0x35, 0x45, 0x55, 0x65, 0x75,
            0, 0x07, 0x17, 0x27, 0x37, 0x47, 0x57, 0x67, 0x77);
        Checks.due("rows", x.rows(0), 15);
    }

    private static void passesWithoutPoints() {
        SevenPassImage x = grey(1, 1, 2, 3, 4, 5, 6, 7, 8);
        x.write(true, 0);
        dueData("one column", x, 0, 1, 0, 5, 0, 3, 0, 7, 0, 2, 0, 4, 0, 6, 0, 8);
        SevenPassImage y = grey(8, 1, 2, 3, 4, 5, 6, 7, 8);
        y.write(true, 0);
        dueData("one row", y, 0, 1, 0, 5, 0, 3, 7, 0, 2, 4, 6, 8);
        SevenPassImage z = grey(5, 1, 2, 3, 4, 5);
        z.write(true, 2);
        dueData("no row above the first of a pass", z, 2, 1, 2, 5, 2, 3, 2, 2, 4);
        SevenPassImage u = grey(1, 9);
        u.write(true, 3);
        dueData("one point", u, 3, 9);
    }

    private static void duePacked(String what, SevenPassImage x, PackedData packed, int copies) {
        byte[] file = fileOf(x);
        byte[] want = packed.end().bytes();
        Checks.due(what, Arrays.equals(Arrays.copyOfRange(file, 41, file.length - 16), want), true);
        Checks.due(what + ": copies", x.copies(), copies);
    }

    private static void packing() {
        SevenPassImage two = grey(4, 7, 8, 7, 8);
        two.write(false, 0);
        duePacked("no copy of two bytes", two,
            new PackedData().block(true, 1).literals(0, 7, 8, 7, 8), 0);
        SevenPassImage three = grey(6, 7, 8, 9, 7, 8, 9);
        three.write(false, 0);
        duePacked("a copy of three", three, new PackedData().block(true, 1).literals(0, 7, 8, 9)
            .copy(257, 0, 0, 2, 0, 0).gives(3, 3), 1);
        SevenPassImage over = grey(8, 5, 5, 5, 5, 5, 5, 5, 5);
        over.write(false, 0);
        duePacked("a copy over its place", over, new PackedData().block(true, 1).literals(0, 5)
            .copy(261, 0, 0, 0, 0, 0).gives(7, 1), 1);
        // The last 1, 2, 3 stand 4 and 8 bytes before as well.
        SevenPassImage least = new SevenPassImage();
        least.begin(2, 8, 4, 1);
        int[] samples = {1, 2, 3, 9, 1, 2, 3, 8, 1, 2, 3, 7};
        for (int k = 0; k < samples.length; k++) {
            least.set(k / 3, 0, k % 3, samples[k]);
        }
        least.write(false, 0);
        duePacked("of several distances the least", least, new PackedData().block(true, 1)
            .literals(0, 1, 2, 3, 9).copy(257, 0, 0, 3, 0, 0).gives(3, 4).literals(8)
            .copy(257, 0, 0, 3, 0, 0).gives(3, 4).literals(7), 2);
        // A longer copy from farther off goes before a nearer one.
        SevenPassImage longest = grey(8, 1, 2, 3, 4, 9, 1, 2, 3, 5, 1, 2, 3, 4, 6, 6, 8);
        longest.write(false, 0);
        duePacked("the longest", longest, new PackedData().block(true, 1)
            .literals(0, 1, 2, 3, 4, 9).copy(257, 0, 0, 4, 0, 1).gives(3, 5).literals(0, 5)
            .copy(258, 0, 0, 6, 1, 2).gives(4, 10).literals(6, 6, 8), 2);
    }

    private static void longCopies() {
        SevenPassImage x = new SevenPassImage();
        x.begin(6, 8, 8, 8);
        x.write(false, 0);
        // 264 bytes 0: one as it is, 258 by one copy, 5 by another.
        duePacked("a copy of 258", x, new PackedData().block(true, 1).literals(0)
            .copy(285, 0, 0, 0, 0, 0).gives(258, 1).copy(259, 0, 0, 0, 0, 0).gives(5, 1), 2);
        SevenPassImage y = new SevenPassImage();
        y.begin(6, 8, 8, 7);
        y.write(false, 0);
        // 231 bytes 0: a copy of 230, 227 and 3 more.
        duePacked("a copy of 230", y, new PackedData().block(true, 1).literals(0)
            .copy(284, 3, 5, 0, 0, 0).gives(230, 1), 1);
        SevenPassImage z = new SevenPassImage();
        z.begin(0, 8, 5, 2);
        z.write(false, 0);
        duePacked("a copy of 11", z, new PackedData().block(true, 1).literals(0)
            .copy(265, 0, 1, 0, 0, 0).gives(11, 1), 1);
    }

    /** Pictures of zeros alone are one byte and one copy of as many as are left. */
    private static void copiesOfEachLength() {
        int[][] kinds = {{0, 8, 1}, {2, 8, 3}, {4, 8, 2}, {6, 8, 4}};
        int[] least = {3, 4, 5, 6, 7, 8, 9, 10, 11, 13, 15, 17, 19, 23, 27, 31, 35, 43, 51, 59, 67,
            83, 99, 115, 131, 163, 195, 227, 258};
        for (int[] kind : kinds) {
            for (int size = 0; size < 64; size++) {
                int w = size % 8 + 1;
                int h = size / 8 + 1;
                int length = h * (1 + w * kind[2]) - 1;
                if (length < 3 || length > 258) {
                    continue;
                }
                int at = 0;
                while (at + 1 < least.length && least[at + 1] <= length) {
                    at++;
                }
                int bits = at < 8 || at == 28 ? 0 : at / 4 - 1;
                SevenPassImage x = new SevenPassImage();
                x.begin(kind[0], kind[1], w, h);
                x.write(false, 0);
                duePacked("a copy of " + length, x, new PackedData().block(true, 1).literals(0)
                    .copy(257 + at, length - least[at], bits, 0, 0, 0).gives(length, 1), 1);
            }
        }
    }

    private static void formerFileIsGone() {
        SevenPassImage x = new SevenPassImage();
        for (int k = 0; k < 100; k++) {
            x.append(255);
        }
        int length = x.write(false, 0);
        Checks.due("length", x.length(), length);
        Checks.due("byteAt behind the end", x.byteAt(length), SevenPassImage.NONE);
        Checks.due("byteAt of the end", x.byteAt(length - 1), 130);
        Checks.due("read", x.read(), 0);
        Checks.due("shape", x.shape(), 10101);
    }
}
