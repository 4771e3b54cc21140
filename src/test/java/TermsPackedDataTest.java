import java.util.Arrays;

/** PACKED DATA: the two first bytes, the last byte filled up, the sum, too few or many bytes. */
public final class TermsPackedDataTest {
    private static final int STREAM = SevenPassImage.STREAM;
    private static final int ROWS = SevenPassImage.ROWS;
    /** A picture of one row and three columns, grey of depth 8: 5, 6, 7. */
    private static final byte[] HEAD = Chunks.head(0, 8, 3, 1, false);
    private static final byte[] PLAIN = new PackedData().plain(true, 0, 5, 6, 7).bytes();
    private static final byte[] CODED = new PackedData().block(true, 1).literals(0, 5, 6, 7).end()
        .bytes();

    public static void main(String[] args) {
        firstBytesWritten();
        firstByteModuloSixteen();
        firstByteBelow128();
        firstBytesDivisible();
        secondByteWithoutBit();
        everyFirstBytes();
        lastByteFilledUpInWriting();
        lastByteNotLookedAtInReading();
        sumWritten();
        sumOfNoBytes();
        sumModuloInA();
        sumModuloInB();
        sumIsThatOfTheData();
        sumGreatestFirst();
        endsTooEarly();
        goesOnBehindTheSum();
        dataInSeveralChunks();
        Checks.end();
    }

    private static void due(String what, int want, byte[] packed) {
        SevenPassImage x = Chunks.holding(Chunks.whole(HEAD, packed));
        Checks.due(what, x.read(), want);
        Checks.due(what + ": shape", x.shape(), want == 0 ? 80301 : 10101);
        if (want == 0) {
            Pictures.dueSamples(what, x, 5, 6, 7);
        }
    }

    private static void dueFirst(int p, int q, int want) {
        byte[] packed = CODED.clone();
        packed[0] = (byte) p;
        packed[1] = (byte) q;
        due("first bytes " + p + " and " + q, want, packed);
    }

    /** "PACKED DATA are bytes: 120 and 1", whatever the picture. */
    private static void firstBytesWritten() {
        for (int[] kind : Pictures.KINDS) {
            for (int side : new int[] {1, 8}) {
                SevenPassImage x = new SevenPassImage();
                x.begin(kind[0], kind[1], side, side);
                x.write(side == 8, 5);
                Checks.due("the first byte", x.byteAt(Written.PACKED_AT), 120);
                Checks.due("the second byte", x.byteAt(Written.PACKED_AT + 1), 1);
            }
        }
    }

    /** "p modulo 16 being 8": all that is said holds but for this, or with it. */
    private static void firstByteModuloSixteen() {
        dueFirst(0x78, 1, 0);
        dueFirst(0x79, 24, STREAM);
        dueFirst(0x77, 9, STREAM);
        dueFirst(0x70, 2, STREAM);
        dueFirst(0x7F, 0, STREAM);
        dueFirst(0x08, 29, 0);
        dueFirst(0x18, 25, 0);
        dueFirst(0x00, 0, STREAM);
    }

    /** "p below 128". */
    private static void firstByteBelow128() {
        dueFirst(0x78, 1, 0);
        dueFirst(0x88, 28, STREAM);
        dueFirst(0xF8, 0, STREAM);
        dueFirst(0x68, 5, 0);
    }

    /** "256 p + q divisible by 31". */
    private static void firstBytesDivisible() {
        dueFirst(0x78, 0, STREAM);
        dueFirst(0x78, 1, 0);
        dueFirst(0x78, 2, STREAM);
        dueFirst(0x78, 93, STREAM);
        dueFirst(0x78, 94, 0);
        dueFirst(0x78, 95, STREAM);
    }

    /** "q without the bit 32": all q that go with 120 in 256 p + q. */
    private static void secondByteWithoutBit() {
        int[] right = {1, 94, 156, 218};
        int[] wrong = {32, 63, 125, 187, 249};
        for (int q : right) {
            dueFirst(0x78, q, 0);
        }
        for (int q : wrong) {
            dueFirst(0x78, q, STREAM);
        }
    }

    /** Every pair of bytes, many in turn in one object. */
    private static void everyFirstBytes() {
        SevenPassImage x = null;
        int left = 0;
        for (int both = 0; both < 65536; both++) {
            if (left == 0) {
                x = Chunks.holding(Chunks.whole(HEAD, PLAIN));
                left = 100;
            }
            left--;
            int p = both / 256;
            int q = both % 256;
            x.poke(Written.PACKED_AT, p);
            x.poke(Written.PACKED_AT + 1, q);
            x.seal(33);
            boolean right = p % 16 == 8 && p < 128 && both % 31 == 0 && q / 32 % 2 == 0;
            Checks.due("first bytes " + p + " and " + q, x.read(), right ? 0 : STREAM);
        }
    }

    /** "the last byte is filled up (with 0 bits": every number of bits to fill, none among them. */
    private static void lastByteFilledUpInWriting() {
        boolean[] met = new boolean[8];
        for (int nines = 0; nines < 8; nines++) {
            PackedData want = literals(nines);
            met[want.bitsInLastByte()] = true;
            SevenPassImage x = Pictures.grey(8, samples(nines));
            x.write(false, 0);
            Written.duePacked(nines + " words of nine bits", x, want, 0);
        }
        for (int bits = 0; bits < 8; bits++) {
            Checks.due(bits + " bits in the last byte met", met[bits], true);
        }
    }

    /** Eight samples, so many of them written with nine bits. */
    private static int[] samples(int nines) {
        int[] samples = new int[8];
        for (int k = 0; k < 8; k++) {
            samples[k] = (k < nines ? 160 : 20) + 3 * k;
        }
        return samples;
    }

    private static PackedData literals(int nines) {
        return new PackedData().block(true, 1).literals(0).literals(samples(nines)).end();
    }

    /** "in reading they are not looked at": every filling of every number of bits. */
    private static void lastByteNotLookedAtInReading() {
        for (int nines = 0; nines < 8; nines++) {
            int used = literals(nines).bitsInLastByte();
            int free = used == 0 ? 0 : 8 - used;
            for (int filling = 0; filling < 1 << free; filling++) {
                SevenPassImage x = Chunks.holding(Chunks.whole(Chunks.head(0, 8, 8, 1, false),
                    literals(nines).lowestFirst(filling, free).bytes()));
                Checks.due("read with " + free + " bits of " + filling, x.read(), 0);
                Pictures.dueSamples("filled with " + filling, x, samples(nines));
            }
        }
    }

    /** "then four bytes, the SUM of the data, greatest first", by the library's Adler32. */
    private static void sumWritten() {
        SevenPassImage x = Pictures.grey(3, 5, 6, 7);
        x.write(false, 0);
        byte[] file = Written.file(x);
        // A: 1 + 18. B: 1 + 6 + 12 + 19.
        dueBytes("the sum of 0, 5, 6, 7", sumOf(file), 0, 38, 0, 19);
        int[] whites = new int[64];
        Arrays.fill(whites, 255);
        SevenPassImage y = Pictures.grey(8, whites);
        y.write(true, 0);
        Checks.due("a sum with a great B", Arrays.toString(sumOf(Written.file(y))),
            Arrays.toString(PackedData.number(PackedData.sumOf(Written.data(y)))));
    }

    private static byte[] sumOf(byte[] file) {
        int end = file.length - Written.BEHIND_PACKED;
        return Arrays.copyOfRange(file, end - 4, end);
    }

    private static void dueBytes(String what, byte[] got, int... want) {
        Checks.due(what, Arrays.toString(got), Arrays.toString(Chunks.bytes(want)));
    }

    private static byte[] withSum(PackedData blocks, long sum) {
        return PackedData.joined(blocks.withoutSum(), PackedData.number(sum));
    }

    /** "(0 without bytes)": B is 0, A is 1; what has this sum has too few data, no wrong stream. */
    private static void sumOfNoBytes() {
        due("no data, the sum 1", ROWS, withSum(new PackedData().plain(true), 1));
        due("no codes, the sum 1", ROWS, withSum(new PackedData().block(true, 1).end(), 1));
        due("no data, the sum 0", STREAM, withSum(new PackedData().plain(true), 0));
        due("no data, the sum 2", STREAM, withSum(new PackedData().plain(true), 2));
        due("no data, B 1", STREAM, withSum(new PackedData().plain(true), 65537));
    }

    /** 258 bytes 255 or so, that make A what is wanted. */
    private static int[] bytesOfA(int a) {
        int[] bytes = new int[258];
        Arrays.fill(bytes, 0, 256, 255);
        bytes[256] = a - 65281;
        return bytes;
    }

    private static long sum(int[] bytes, long modulus) {
        long a = 1;
        long b = 0;
        for (int one : bytes) {
            a = (a + one) % modulus;
            b = (b + a) % 65521;
        }
        return b * 65536 + a;
    }

    /** "A is 1 plus all bytes, modulo 65521": below it, at it and above it. */
    private static void sumModuloInA() {
        int[] values = {65281, 65519, 65520, 65521, 65522, 65535, 65536};
        for (int value : values) {
            int[] bytes = bytesOfA(value);
            long sum = sum(bytes, 65521);
            Checks.due("A of " + value, sum % 65536, value < 65521 ? value : value - 65521);
            due("A of " + value, ROWS, withSum(new PackedData().plain(true, bytes), sum));
            if (value >= 65521) {
                due("A of " + value + " modulo 65536", STREAM,
                    withSum(new PackedData().plain(true, bytes), sum(bytes, 65536)));
                due("A of " + value + " not reduced", STREAM, withSum(
                    new PackedData().plain(true, bytes), sum / 65536 * 65536 + value % 65536));
            }
        }
    }

    /** "B the sum of the values that A had after each byte, modulo 65521", in writing too. */
    private static void sumModuloInB() {
        // The first samples count 71, 70, 69, 68, 67 and 66 times; A's first 1 counts 72 times.
        dueB(65520, 255, 255, 255, 174, 0, 1);
        dueB(65521, 255, 255, 255, 174, 1, 0);
        dueB(65522, 255, 255, 255, 175, 0, 0);
    }

    private static void dueB(int b, int... firstSamples) {
        int[] data = new int[72];
        int[] samples = Arrays.copyOf(firstSamples, 64);
        System.arraycopy(firstSamples, 0, data, 1, firstSamples.length);
        long whole = 0;
        long a = 1;
        for (int one : data) {
            a += one;
            whole += a;
        }
        Checks.due("B not reduced", whole, b);
        long sum = b % 65521 * 65536 + a;
        SevenPassImage x = Pictures.grey(8, samples);
        x.write(false, 0);
        Checks.due("B of " + b, Arrays.toString(sumOf(Written.file(x))),
            Arrays.toString(PackedData.number(sum)));
        byte[] head = Chunks.head(0, 8, 8, 8, false);
        Checks.due("read with B of " + b, Chunks.read(Chunks.whole(head,
            withSum(new PackedData().plain(true, data), sum))), 0);
        Checks.due("read with B of " + b + " not reduced", Chunks.read(Chunks.whole(head,
            withSum(new PackedData().plain(true, data), b * 65536L + a))), b < 65521 ? 0 : STREAM);
    }

    /** "or the sum is not that of the data": every bit of it. */
    private static void sumIsThatOfTheData() {
        for (byte[] packed : new byte[][] {PLAIN, CODED}) {
            for (int bit = 0; bit < 32; bit++) {
                byte[] spoiled = packed.clone();
                spoiled[packed.length - 1 - bit / 8] ^= (byte) (1 << bit % 8);
                due("bit " + bit + " of the sum turned", STREAM, spoiled);
            }
            due("the right sum", 0, packed);
        }
    }

    private static void sumGreatestFirst() {
        due("38 and 19", 0, PackedData.joined(new PackedData().plain(true, 0, 5, 6, 7).withoutSum(),
            Chunks.bytes(0, 38, 0, 19)));
        due("least first", STREAM, PackedData.joined(
            new PackedData().plain(true, 0, 5, 6, 7).withoutSum(), Chunks.bytes(19, 0, 38, 0)));
        due("A first", STREAM, PackedData.joined(
            new PackedData().plain(true, 0, 5, 6, 7).withoutSum(), Chunks.bytes(0, 19, 0, 38)));
    }

    /** "their bytes end too early": cut behind every byte. */
    private static void endsTooEarly() {
        byte[] copied = new PackedData().block(false, 1).literals(0).end().block(true, 1)
            .copy(257, 0, 0, 0, 0, 0).gives(3, 1).end().bytes();
        for (byte[] packed : new byte[][] {PLAIN, CODED, copied}) {
            for (int n = 0; n < packed.length; n++) {
                due("cut to " + n + " bytes", STREAM, Arrays.copyOf(packed, n));
            }
        }
        due("no END", STREAM, withSum(new PackedData().block(true, 1).literals(0, 5, 6, 7),
            PackedData.sumOf(Chunks.bytes(0, 5, 6, 7))));
        due("no last block", STREAM,
            new PackedData().block(false, 1).literals(0, 5, 6, 7).end().bytes());
        due("nothing but the first bytes and a sum", STREAM, withSum(new PackedData(), 1));
        due("a block without anything behind its form", STREAM,
            withSum(new PackedData().block(true, 1), 1));
    }

    /** ".. or go on behind the sum". */
    private static void goesOnBehindTheSum() {
        for (byte[] packed : new byte[][] {PLAIN, CODED}) {
            for (int more : new int[] {1, 2, 3, 4, 5, 100}) {
                due(more + " bytes more", STREAM, Arrays.copyOf(packed, packed.length + more));
            }
            due("the sum twice", STREAM, PackedData.joined(packed,
                Arrays.copyOfRange(packed, packed.length - 4, packed.length)));
        }
        due("a byte between the blocks and the sum", STREAM,
            new PackedData().plain(true, 0, 5, 6, 7).lowestFirst(0, 8).bytes());
        due("a block behind the last", STREAM,
            new PackedData().plain(true, 0, 5, 6).plain(true, 7).bytes());
    }

    /** "The bytes of all DATA, one after the other": cut at every place, some DATA empty. */
    private static void dataInSeveralChunks() {
        for (byte[] packed : new byte[][] {PLAIN, CODED}) {
            for (int cut = 0; cut <= packed.length; cut++) {
                byte[] first = Chunks.chunk("IDAT", Arrays.copyOf(packed, cut));
                byte[] second = Chunks.chunk("IDAT",
                    Arrays.copyOfRange(packed, cut, packed.length));
                Checks.due("cut at " + cut,
                    Chunks.read(Chunks.file(HEAD, first, second, Chunks.LAST)), 0);
                Checks.due("cut at " + cut + ", the wrong way round",
                    Chunks.read(Chunks.file(HEAD, second, first, Chunks.LAST)),
                    cut == 0 || cut == packed.length ? 0 : STREAM);
            }
            byte[][] ones = new byte[packed.length][];
            for (int k = 0; k < packed.length; k++) {
                ones[k] = Chunks.chunk("IDAT", packed[k] & 255);
            }
            SevenPassImage x = Chunks.holding(
                Chunks.file(HEAD, PackedData.joined(ones), Chunks.LAST));
            Checks.due("a DATA for each byte", x.read(), 0);
            Pictures.dueSamples("a DATA for each byte", x, 5, 6, 7);
        }
    }
}
