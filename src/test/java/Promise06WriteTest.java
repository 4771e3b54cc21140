import java.util.Arrays;

/** Promise 6: write, looked at with the library's inflater and checksums. */
public final class Promise06WriteTest {
    public static void main(String[] args) {
        wrongFilters();
        wholeFile();
        filters();
        leastSum();
        sizesOfBytes();
        greatSums();
        severalLeastSums();
        pictureStays();
        sevenPasses();
        formerFileIsGone();
        Checks.end();
    }

    private static void wrongFilters() {
        SevenPassImage x = Pictures.grey(2, 1, 2);
        int length = x.write(false, 1);
        int[] wrong = {Integer.MIN_VALUE, -1, 6, 7, Integer.MAX_VALUE};
        for (int filter : wrong) {
            Checks.due("write " + filter, x.write(true, filter), SevenPassImage.NONE);
        }
        Checks.due("length", x.length(), length);
        Checks.due("rows", x.rows(1), 1);
        Checks.due("one pass still", x.byteAt(28), 0);
    }

    private static void wholeFile() {
        for (int way = 0; way < 2; way++) {
            SevenPassImage x = new SevenPassImage();
            x.begin(4, 8, 2, 1);
            x.set(0, 0, 0, 150);
            x.set(0, 0, 1, 143);
            x.set(1, 0, 0, 144);
            x.set(1, 0, 1, 255);
            PackedData packed = new PackedData().block(true, 1);
            if (way == 0) {
                packed.literals(0, 150, 143, 144, 255).end();
            } else {
                packed.literals(0, 150, 143, 0, 144, 255).end();
            }
            byte[] want = Chunks.whole(Chunks.head(4, 8, 2, 1, way == 1), packed.bytes());
            Checks.due("write", x.write(way == 1, 0), want.length);
            Checks.due("the file of way " + way, Arrays.equals(Written.file(x), want), true);
        }
    }

    private static void filters() {
        SevenPassImage x = Pictures.grey(3, 10, 200, 30, 250, 5, 90);
        x.write(false, 0);
        Written.dueData("filter 0", x, 0, 10, 200, 30, 0, 250, 5, 90);
        x.write(false, 1);
        Written.dueData("filter 1", x, 1, 10, 190, 86, 1, 250, 11, 85);
        x.write(false, 2);
        Written.dueData("filter 2", x, 2, 10, 200, 30, 2, 240, 61, 60);
        x.write(false, 3);
        Written.dueData("filter 3", x, 3, 10, 195, 186, 3, 245, 36, 73);
        x.write(false, 4);
        // Second row: from 0, 10, 0 the 10; from 250, 200, 10 (440) the 250; from 5, 30, 200
        // (-165) the 5.
        Written.dueData("filter 4", x, 4, 10, 190, 86, 4, 240, 11, 85);
        // A unit of three bytes.
        SevenPassImage y = new SevenPassImage();
        y.begin(2, 8, 2, 1);
        y.set(0, 0, 0, 9);
        y.set(1, 0, 0, 10);
        y.set(1, 0, 2, 3);
        y.write(false, 1);
        Written.dueData("filter 1 of colour", y, 1, 9, 0, 0, 1, 0, 3);
        // A unit is a byte at least, however few bits a sample has.
        SevenPassImage z = new SevenPassImage();
        z.begin(0, 2, 6, 1);
        for (int k = 0; k < 6; k++) {
            z.set(k, 0, 0, k % 4);
        }
        z.write(false, 1);
        Written.dueData("filter 1 of two bits", z, 1, 27, 16 - 27);
    }

    private static void leastSum() {
        SevenPassImage x = Pictures.grey(3, 100, 101, 102, 100, 101, 102, 0, 0, 0, 1, 255, 1);
        x.write(false, 5);
        // Row 1 by filter 1; row 2 by 2; row 3 by 0; row 4 by 0: 255 counts as -1.
        Written.dueData("least sums", x, 1, 100, 1, 1, 2, 0, 0, 0, 0, 0, 0, 0, 0, 1, 255, 1);
        Checks.due("rows 0", x.rows(0), 2);
        Checks.due("rows 1", x.rows(1), 1);
        Checks.due("rows 2", x.rows(2), 1);
        // 128 has size 128 by every filter: the least filter is taken.
        dueChosen("of all five the least", Pictures.grey(1, 128), 0, 128);
        // By filter 0 the sizes are 1 and 1, by filter 1 they are 1 and 0.
        dueChosen("255 is -1", Pictures.grey(2, 255, 255), 1, 255, 0);
        // The second row by filter 0: 255 of size 1; by filter 2: 1 of size 1.
        dueChosen("1 and -1 are as great", Pictures.grey(1, 254, 255), 0, 254, 0, 255);
        // The second row by filter 0: 254 of size 2; by filter 2: 1 of size 1.
        dueChosen("1 is less than -2", Pictures.grey(1, 253, 254), 0, 253, 2, 1);
        // The second row by filter 0: 5 and 0; by filter 2: 0 and 0.
        dueChosen("the first byte counts", Pictures.grey(2, 5, 0, 5, 0), 0, 5, 0, 2, 0, 0);
        // The second row by filter 0: 129 of size 127; by filter 2: 126.
        dueChosen("129 is -127", Pictures.grey(1, 3, 129), 0, 3, 2, 126);
        // The second row by filter 0: 130 of size 126; by filter 3: 129 of 127; by filter 2: 128.
        dueChosen("130 is -126", Pictures.grey(1, 2, 130), 0, 2, 0, 130);
    }

    private static void dueChosen(String what, SevenPassImage x, int... data) {
        x.write(false, 5);
        Written.dueData(what, x, data);
    }

    /** "taken as -128 .. 127": 128 has the size 128, 127 and 129 have 127. */
    private static void sizesOfBytes() {
        // The second row by filter 0 and by filter 2.
        dueChosen("128 or 127", Pictures.grey(1, 1, 128), 0, 1, 2, 127);
        dueChosen("127 or 126", Pictures.grey(1, 1, 127), 0, 1, 2, 126);
        dueChosen("129 or 128", Pictures.grey(1, 1, 129), 0, 1, 0, 129);
        dueChosen("129 or 127", Pictures.grey(1, 2, 129), 0, 2, 0, 129);
        dueChosen("0 by filter 3", Pictures.grey(1, 255, 127), 0, 255, 3, 0);
        dueChosen("0 and 0 by filter 4", Pictures.grey(3, 10, 10, 10, 10, 60, 60),
            1, 10, 0, 0, 4, 0, 50, 0);
    }

    /** The greatest sums that there are: 32 bytes of size 128 by filter 0, four by filter 1. */
    private static void greatSums() {
        int[] samples = new int[64];
        Arrays.fill(samples, 128);
        for (int k = 0; k < 32; k += 2) {
            samples[32 + k] = 0;
        }
        SevenPassImage x = Pictures.of(6, 8, 8, samples);
        x.write(false, 5);
        int[] want = new int[66];
        want[0] = 1;
        Arrays.fill(want, 1, 5, 128);
        // By filter 1 the second row is 0, 128, 0, 128 and then 0; by filter 2 half of it is 128.
        want[33] = 1;
        want[35] = 128;
        want[37] = 128;
        Written.dueData("the least of great sums", x, want);
    }

    /**
     * "the least sum of sizes (of several the least filter)": pictures of two rows with three
     * columns whose second row has the least sum by the filters named.
     */
    private static void severalLeastSums() {
        dueSecondRow("0", 17, 14, 37, 6, 20, 1);
        dueSecondRow("1", 8, 36, 4, 16, 7, 31);
        dueSecondRow("2", 1, 24, 27, 38, 0, 28);
        dueSecondRow("3", 28, 30, 24, 13, 6, 31);
        dueSecondRow("4", 18, 7, 21, 32, 27, 32);
        dueSecondRow("0 1", 34, 34, 33, 14, 16, 1);
        dueSecondRow("0 2", 4, 5, 1, 28, 0, 17);
        dueSecondRow("0 3", 33, 8, 37, 16, 0, 7);
        dueSecondRow("0 4", 1, 13, 20, 30, 35, 2);
        dueSecondRow("1 2", 9, 36, 17, 20, 10, 18);
        dueSecondRow("1 3", 19, 15, 21, 6, 34, 39);
        dueSecondRow("1 4", 1, 19, 39, 14, 5, 14);
        dueSecondRow("2 3", 35, 37, 33, 34, 1, 18);
        dueSecondRow("2 4", 25, 37, 2, 30, 15, 25);
        dueSecondRow("3 4", 10, 15, 10, 6, 27, 24);
        dueSecondRow("2 3 4", 30, 4, 16, 26, 12, 0);
        dueSecondRow("1 2 3 4", 0, 34, 34, 39, 39, 21);
        dueSecondRow("0 1 2 3 4", 10, 16, 30, 15, 19, 2);
    }

    private static void dueSecondRow(String filters, int... samples) {
        int[] sums = new int[5];
        int least = Integer.MAX_VALUE;
        for (int filter = 0; filter < 5; filter++) {
            SevenPassImage one = Pictures.grey(3, samples);
            one.write(false, filter);
            byte[] data = Written.data(one);
            for (int k = 5; k < 8; k++) {
                sums[filter] += Math.abs((int) data[k]);
            }
            least = Math.min(least, sums[filter]);
        }
        StringBuilder best = new StringBuilder();
        for (int filter = 0; filter < 5; filter++) {
            best.append(sums[filter] == least ? " " + filter : "");
        }
        Checks.due("the filters of the least sum", best.substring(1), filters);
        SevenPassImage x = Pictures.grey(3, samples);
        x.write(false, 5);
        Checks.due("the filter chosen of " + filters, Written.data(x)[4], filters.charAt(0) - '0');
    }

    /** write changes the file, rows and copies, and not the picture. */
    private static void pictureStays() {
        for (int filter = 0; filter <= 5; filter++) {
            SevenPassImage x = Pictures.of(2, 8, 2, 1, 2, 3, 250, 251, 252, 0, 0, 0, 128, 127, 129);
            x.write(filter % 2 == 0, filter);
            Checks.due("shape", x.shape(), 2080202);
            Pictures.dueSamples("after write by " + filter, x,
                1, 2, 3, 250, 251, 252, 0, 0, 0, 128, 127, 129);
        }
    }

    private static void sevenPasses() {
        SevenPassImage x = new SevenPassImage();
        x.begin(0, 8, 8, 8);
        for (int k = 0; k < 64; k++) {
            x.set(k % 8, k / 8, 0, 16 * (k % 8) + k / 8);
        }
        x.write(true, 0);
        // A sample's tens of hexadecimal are its column, the ones its row.
        Written.dueData("seven passes", x,
            0, 0x00,
            0, 0x40,
            0, 0x04, 0x44,
            0, 0x20, 0x60, 0, 0x24, 0x64,
            0, 0x02, 0x22, 0x42, 0x62, 0, 0x06, 0x26, 0x46, 0x66,
            0, 0x10, 0x30, 0x50, 0x70, 0, 0x12, 0x32, 0x52, 0x72,
            0, 0x14, 0x34, 0x54, 0x74, 0, 0x16, 0x36, 0x56, 0x76,
            0, 0x01, 0x11, 0x21, 0x31, 0x41, 0x51, 0x61, 0x71,
            0, 0x03, 0x13, 0x23, 0x33, 0x43, 0x53, 0x63, 0x73,
            0, 0x05, 0x15, 0x25, 0x35, 0x45, 0x55, 0x65, 0x75,
            0, 0x07, 0x17, 0x27, 0x37, 0x47, 0x57, 0x67, 0x77);
        Checks.due("rows", x.rows(0), 15);
    }

    private static void formerFileIsGone() {
        SevenPassImage x = new SevenPassImage();
        for (int k = 0; k < 100; k++) {
            x.append(255);
        }
        int length = x.write(false, 0);
        Checks.due("length", x.length(), length);
        Checks.due("byteAt behind the end", x.byteAt(length), SevenPassImage.NONE);
        Checks.due("byteAt of the end", x.byteAt(length - 1), 130);
        Checks.due("read", x.read(), 0);
        Checks.due("shape", x.shape(), 10101);
    }
}
