import java.util.Arrays;

/** BLOCK: each form, each code, each t, the distances and the 300 bytes, all in reading. */
public final class TermsBlockTest {
    private static final int STREAM = SevenPassImage.STREAM;
    private static final int ROWS = SevenPassImage.ROWS;
    /** A picture of one row and three columns, grey of depth 8: 5, 6, 7. */
    private static final byte[] HEAD = Chunks.head(0, 8, 3, 1, false);
    private static final long SUM = PackedData.sumOf(Chunks.bytes(0, 5, 6, 7));
    private static final byte[] GREAT_HEAD = Chunks.head(6, 8, 8, 8, false);

    /** The least distance of each t, and how many bits follow, by hand. */
    private static final int[] DISTANCES = {1, 2, 3, 4, 5, 7, 9, 13, 17, 25, 33, 49, 65, 97, 129,
        193, 257, 385, 513, 769, 1025, 1537, 2049, 3073, 4097, 6145, 8193, 12289, 16385, 24577};
    private static final int[] DISTANCE_BITS = {0, 0, 0, 0, 1, 1, 2, 2, 3, 3, 4, 4, 5, 5, 6, 6, 7,
        7, 8, 8, 9, 9, 10, 10, 11, 11, 12, 12, 13, 13};

    public static void main(String[] args) {
        lastBlock();
        formsRefused();
        formZeroPassesOverBits();
        formZeroLengths();
        formZeroLowerByteFirst();
        formZeroTurnedLength();
        formZeroBytesAsTheyAre();
        formOneUpToEnd();
        literals();
        refusedCodes();
        lengths();
        distances();
        refusedDistanceNumbers();
        distanceUpToTheBytesSoFar();
        bytesSoFarOfAllBlocks();
        copyOverThePlace();
        threeHundredBytesByCopies();
        threeHundredBytesByLiterals();
        threeHundredBytesPlain();
        Checks.end();
    }

    private static void due(String what, int want, byte[] packed) {
        SevenPassImage x = Chunks.holding(Chunks.whole(HEAD, packed));
        Checks.due(what, x.read(), want);
        Checks.due(what + ": shape", x.shape(), want == 0 ? 80301 : 10101);
        if (want == 0) {
            Pictures.dueSamples(what, x, 5, 6, 7);
        }
    }

    private static byte[] withSum(PackedData blocks, long sum) {
        return PackedData.joined(blocks.withoutSum(), PackedData.number(sum));
    }

    /** "a bit, 1 if it is the last". */
    private static void lastBlock() {
        due("one last block", 0,
            new PackedData().block(true, 1).literals(0, 5, 6, 7).end().bytes());
        due("one that is not the last", STREAM,
            new PackedData().block(false, 1).literals(0, 5, 6, 7).end().bytes());
        due("a plain one that is not the last", STREAM,
            new PackedData().plain(false, 0, 5, 6, 7).bytes());
        due("two blocks", 0, new PackedData().block(false, 1).literals(0, 5).end().block(true, 1)
            .literals(6, 7).end().bytes());
        due("a block behind the last", STREAM, new PackedData().block(true, 1).literals(0, 5, 6, 7)
            .end().block(true, 1).end().fillByte().lowestFirst(0, 8).bytes());
        due("blocks of both forms", 0, new PackedData().plain(false, 0, 5).plain(false)
            .block(false, 1).literals(6).end().plain(true, 7).bytes());
        due("an empty block as the last", 0, new PackedData().plain(false, 0, 5).block(false, 1)
            .literals(6, 7).end().block(true, 1).end().bytes());
        PackedData many = new PackedData();
        for (int i = 0; i < 300; i++) {
            many.block(false, 1).end();
        }
        due("three hundred empty blocks before it", 0,
            many.block(true, 1).literals(0, 5, 6, 7).end().bytes());
    }

    /** "Forms 2 and 3 are refused." */
    private static void formsRefused() {
        for (int form = 2; form <= 3; form++) {
            due("form " + form, STREAM,
                new PackedData().block(true, form).literals(0, 5, 6, 7).end().bytes());
            due("form " + form + " behind all data", STREAM,
                new PackedData().plain(false, 0, 5, 6, 7).block(true, form).bytes());
            due("form " + form + " before all data", STREAM,
                new PackedData().block(false, form).plain(true, 0, 5, 6, 7).bytes());
            due("form " + form + " as a plain one", STREAM, withSum(new PackedData()
                .block(true, form).fillByte().lowestFirst(4, 16).lowestFirst(65531, 16)
                .lowestFirst(0, 8).lowestFirst(5, 8).lowestFirst(6, 8).lowestFirst(7, 8), SUM));
        }
    }

    /** "the bits up to the end of the byte under way are passed over": 0 to 7 bits, of any kind. */
    private static void formZeroPassesOverBits() {
        boolean[] met = new boolean[8];
        for (char fill = '0'; fill <= '1'; fill++) {
            for (int nines = 0; nines < 2; nines++) {
                for (int empties = 0; empties < 8; empties++) {
                    PackedData packed = new PackedData().fillWith(fill).block(false, 1);
                    packed.literals(0, nines == 0 ? 100 : 200).end();
                    for (int i = 0; i < empties; i++) {
                        packed.block(false, 1).end();
                    }
                    met[(packed.bitsInLastByte() + 3) % 8] = true;
                    SevenPassImage x = Chunks.holding(Chunks.whole(HEAD,
                        packed.plain(true, 6, 7).bytes()));
                    Checks.due("form 0 behind " + empties + " empty blocks", x.read(), 0);
                    Pictures.dueSamples("form 0", x, nines == 0 ? 100 : 200, 6, 7);
                }
            }
        }
        for (int bit = 0; bit < 8; bit++) {
            Checks.due("a form that ends behind bit " + bit, met[bit], true);
        }
    }

    /** "two bytes, n": none, one, and as many as the greatest picture takes. */
    private static void formZeroLengths() {
        due("none and all", 0, new PackedData().plain(false).plain(true, 0, 5, 6, 7).bytes());
        due("one each", 0, new PackedData().plain(false, 0).plain(false, 5).plain(false, 6)
            .plain(true, 7).bytes());
        SevenPassImage x = Chunks.holding(Chunks.whole(GREAT_HEAD,
            new PackedData().plain(true, new int[264]).bytes()));
        Checks.due("264 plain bytes", x.read(), 0);
        Checks.due("shape", x.shape(), 6080808);
        for (int n : new int[] {255, 256, 257, 263, 265}) {
            Checks.due(n + " plain bytes", Chunks.read(Chunks.whole(GREAT_HEAD,
                new PackedData().plain(true, new int[n]).bytes())), ROWS);
        }
        due("more bytes said than there are", STREAM, withSum(new PackedData().block(true, 0)
            .fillByte().lowestFirst(9, 16).lowestFirst(65526, 16).lowestFirst(0, 32), SUM));
        due("65535 bytes said", STREAM, withSum(new PackedData().block(true, 0).fillByte()
            .lowestFirst(65535, 16).lowestFirst(0, 16), SUM));
    }

    /** "the lower one first", and "two more .. likewise". */
    private static void formZeroLowerByteFirst() {
        due("lower first", 0, withSum(plainFour(4, 0, 251, 255), SUM));
        due("n the other way round", STREAM, withSum(plainFour(0, 4, 251, 255), SUM));
        due("the two more the other way round", STREAM, withSum(plainFour(4, 0, 255, 251), SUM));
        due("both the other way round", STREAM, withSum(plainFour(0, 4, 255, 251), SUM));
    }

    private static PackedData plainFour(int... counts) {
        PackedData packed = new PackedData().block(true, 0).fillByte();
        for (int one : counts) {
            packed.lowestFirst(one, 8);
        }
        return packed.lowestFirst(0, 8).lowestFirst(5, 8).lowestFirst(6, 8).lowestFirst(7, 8);
    }

    /** "two more that are 65535 - n": every bit wrong, one at a time, and a few other numbers. */
    private static void formZeroTurnedLength() {
        for (int bit = 0; bit < 16; bit++) {
            int wrong = 65531 ^ 1 << bit;
            due("bit " + bit + " of 65535 - n wrong", STREAM,
                withSum(plainFour(4, 0, wrong % 256, wrong / 256), SUM));
        }
        due("65536 - n", STREAM, withSum(plainFour(4, 0, 252, 255), SUM));
        due("n once more", STREAM, withSum(plainFour(4, 0, 4, 0), SUM));
        due("0", STREAM, withSum(plainFour(4, 0, 0, 0), SUM));
        due("a wrong one with n of 0", STREAM, new PackedData().block(false, 0).fillByte()
            .lowestFirst(0, 16).lowestFirst(65534, 16).plain(true, 0, 5, 6, 7).bytes());
        due("a right one with n of 0", 0, new PackedData().block(false, 0).fillByte()
            .lowestFirst(0, 16).lowestFirst(65535, 16).plain(true, 0, 5, 6, 7).bytes());
    }

    /** "and n bytes as they are": every byte. */
    private static void formZeroBytesAsTheyAre() {
        for (int b = 0; b < 256; b++) {
            SevenPassImage x = Chunks.holding(Chunks.whole(Chunks.head(0, 8, 1, 1, false),
                new PackedData().plain(true, 0, b).bytes()));
            Checks.due("read of byte " + b, x.read(), 0);
            Checks.due("byte " + b, x.get(0, 0, 0), b);
        }
    }

    /** "Form 1: codes up to END", none among them. */
    private static void formOneUpToEnd() {
        due("END at once", 0, new PackedData().block(false, 1).end().plain(true, 0, 5, 6, 7)
            .bytes());
        due("END and nothing else", ROWS, new PackedData().block(true, 1).end().bytes());
        due("no END", STREAM, withSum(new PackedData().block(true, 1).literals(0, 5, 6, 7), SUM));
    }

    /** "literals 0 .. 143 .. are the 8 bits ..; 144 .. 255 the 9 bits": every one. */
    private static void literals() {
        for (int b = 0; b < 256; b++) {
            PackedData packed = new PackedData().block(true, 1);
            packed.highestFirst(0b00110000, 8);
            packed.highestFirst(b < 144 ? 0b00110000 + b : 0b110010000 + b - 144, b < 144 ? 8 : 9);
            SevenPassImage x = Chunks.holding(Chunks.whole(Chunks.head(0, 8, 1, 1, false),
                withSum(packed.end(), PackedData.sumOf(Chunks.bytes(0, b)))));
            Checks.due("read of literal " + b, x.read(), 0);
            Checks.due("literal " + b, x.get(0, 0, 0), b);
        }
        // The words of 286 and 287 with a bit behind them are no literals 140 .. 143 either.
        for (int literal = 140; literal <= 143; literal++) {
            due("nine bits of 256 + " + literal, STREAM, withSum(new PackedData().block(true, 1)
                .literals(0, 5, 6).highestFirst(256 + literal, 9).end(),
                PackedData.sumOf(Chunks.bytes(0, 5, 6, literal))));
        }
    }

    /** "286 and 287 are refused", wherever they stand; 284 and 285, whose words are near, not. */
    private static void refusedCodes() {
        for (int code = 286; code <= 287; code++) {
            due("code " + code + " at the end", STREAM, withSum(new PackedData().block(true, 1)
                .literals(0, 5, 6, 7).highestFirst(code - 88, 8).highestFirst(0, 5).end(), SUM));
            due("code " + code + " without a distance", STREAM, withSum(new PackedData()
                .block(true, 1).literals(0, 5, 6, 7).highestFirst(code - 88, 8).end(), SUM));
            due("code " + code + " at the beginning", STREAM, withSum(new PackedData()
                .block(true, 1).highestFirst(code - 88, 8).literals(0, 5, 6, 7).end(), SUM));
        }
        dueLength(284, 0, 5, 227);
        dueLength(285, 0, 0, 258);
    }

    /** "A code from 257 on begins a COPY": every code with every x. */
    private static void lengths() {
        for (int code = 257; code <= 264; code++) {
            dueLength(code, 0, 0, code - 254);
        }
        int[] least = {11, 13, 15, 17, 19, 23, 27, 31, 35, 43, 51, 59, 67, 83, 99, 115, 131, 163,
            195, 227};
        for (int i = 0; i < least.length; i++) {
            int bits = 1 + i / 4;
            for (int x = 0; x < 1 << bits; x++) {
                dueLength(265 + i, x, bits, least[i] + x);
            }
        }
        dueLength(285, 0, 0, 258);
    }

    /** A byte 0, a copy that is to have this length, and bytes 0 up to the 264 that fit. */
    private static void dueLength(int code, int extra, int extraBits, int length) {
        PackedData packed = new PackedData().block(false, 1).literals(0)
            .copy(code, extra, extraBits, 0, 0, 0).gives(length, 1).end()
            .plain(true, new int[263 - length]);
        SevenPassImage x = Chunks.holding(Chunks.whole(GREAT_HEAD, packed.bytes()));
        Checks.due("code " + code + " with " + extra, x.read(), 0);
        Checks.due("copies", x.copies(), 1);
    }

    /** "distance t + 1 for t below 4; else ..": every distance that a picture can have. */
    private static void distances() {
        for (int d = 1; d <= Repeats.MOST_DISTANCE; d++) {
            int t = 0;
            while (DISTANCES[t + 1] <= d) {
                t++;
            }
            Repeats repeats = new Repeats(d);
            byte[] packed = repeats.packed(t, d - DISTANCES[t], DISTANCE_BITS[t], d).bytes();
            SevenPassImage x = Chunks.holding(Chunks.whole(GREAT_HEAD, packed));
            Checks.due("read of distance " + d, x.read(), 0);
            Checks.due("copies", x.copies(), 1);
            for (int k = repeats.place; k < repeats.place + 3; k++) {
                int column = k % 33 - 1;
                Checks.due("byte " + k + " of distance " + d,
                    x.get(column / 4, k / 33, column % 4), repeats.data[k]);
            }
        }
    }

    /** "30 and 31 are refused", and every t that is too great for 300 bytes, all bits 0. */
    private static void refusedDistanceNumbers() {
        for (int t = 0; t < 32; t++) {
            int bits = t < 30 ? DISTANCE_BITS[t] : 0;
            boolean there = t < 30 && DISTANCES[t] <= 297;
            due("t " + t + " behind 297 bytes", there ? ROWS : STREAM, new PackedData()
                .plain(false, new int[297]).block(true, 1).copy(257, 0, 0, t, 0, bits)
                .gives(3, 1).end().bytes());
            due("t " + t + " behind 4 bytes", t < 4 ? ROWS : STREAM, withSum(new PackedData()
                .block(true, 1).literals(0, 0, 0, 0).copy(257, 0, 0, t, 0, bits).end(),
                PackedData.sumOf(new byte[7])));
        }
        for (int t = 30; t < 32; t++) {
            // Whether such a copy gave bytes or none, the sum would be right.
            for (int length : new int[] {3, 0}) {
                for (int bits = 0; bits <= 14; bits += 7) {
                    due("t " + t + " with " + bits + " bits", STREAM, withSum(new PackedData()
                        .block(true, 1).literals(0).copy(257, 0, 0, t, 0, bits).end(),
                        PackedData.sumOf(new byte[1 + length])));
                    due("t " + t + " behind all data", STREAM, withSum(new PackedData()
                        .block(true, 1).literals(0, 5, 6, 7).copy(257, 0, 0, t, 0, bits).end(),
                        SUM));
                }
            }
        }
    }

    /** "a distance greater than the number of bytes so far is refused": behind 0 to 297 bytes. */
    private static void distanceUpToTheBytesSoFar() {
        for (int n = 0; n <= 297; n++) {
            for (int d = Math.max(1, n - 1); d <= n + 2; d++) {
                int t = 0;
                while (DISTANCES[t + 1] <= d) {
                    t++;
                }
                byte[] packed = withSum(new PackedData().plain(false, new int[n]).block(true, 1)
                    .copy(257, 0, 0, t, d - DISTANCES[t], DISTANCE_BITS[t]).end(),
                    PackedData.sumOf(new byte[n + 3]));
                int want = d > n ? STREAM : n == 1 ? 0 : ROWS;
                int answer = Chunks.read(Chunks.whole(HEAD, packed));
                Checks.due("distance " + d + " behind " + n + " bytes", answer, want);
                if (d > n) {
                    System.arraycopy(PackedData.number(PackedData.sumOf(new byte[n])), 0, packed,
                        packed.length - 4, 4);
                    Checks.due("distance " + d + " behind " + n + " bytes, no bytes of it",
                        Chunks.read(Chunks.whole(HEAD, packed)), STREAM);
                }
            }
        }
    }

    /** The bytes so far are those of the blocks before, too. */
    private static void bytesSoFarOfAllBlocks() {
        byte[] head = Chunks.head(0, 8, 3, 2, false);
        SevenPassImage x = Chunks.holding(Chunks.whole(head, new PackedData().plain(false, 0, 5)
            .block(false, 1).literals(6, 7).end().block(true, 1).copy(258, 0, 0, 3, 0, 0)
            .gives(4, 4).end().bytes()));
        Checks.due("distance 4 over two blocks", x.read(), 0);
        Pictures.dueSamples("distance 4 over two blocks", x, 5, 6, 7, 5, 6, 7);
        Checks.due("distance 5 over two blocks", Chunks.read(Chunks.whole(head, withSum(
            new PackedData().plain(false, 0, 5).block(false, 1).literals(6, 7).end()
            .block(true, 1).copy(258, 0, 0, 4, 0, 1).end(),
            PackedData.sumOf(Chunks.bytes(0, 5, 6, 7, 0, 5, 6, 7))))), STREAM);
    }

    /** "each the one that lies the distance before it", also where the copy itself has put it. */
    private static void copyOverThePlace() {
        byte[] head = Chunks.head(0, 8, 8, 1, false);
        SevenPassImage x = Chunks.holding(Chunks.whole(head, new PackedData().block(true, 1)
            .literals(0, 5, 6).copy(260, 0, 0, 1, 0, 0).gives(6, 2).end().bytes()));
        Checks.due("six bytes from two", x.read(), 0);
        Pictures.dueSamples("six bytes from two", x, 5, 6, 5, 6, 5, 6, 5, 6);
        SevenPassImage y = Chunks.holding(Chunks.whole(head, new PackedData().block(true, 1)
            .literals(0, 5, 6, 7).copy(259, 0, 0, 2, 0, 0).gives(5, 3).end().bytes()));
        Checks.due("five bytes from three", y.read(), 0);
        Pictures.dueSamples("five bytes from three", y, 5, 6, 7, 5, 6, 7, 5, 6);
    }

    /** "What would make the data longer than 300 bytes is refused too": copies of each length. */
    private static void threeHundredBytesByCopies() {
        int[] codes = {257, 258, 264, 265, 268, 272, 276, 280, 284, 285};
        int[] bits = {0, 0, 0, 1, 1, 2, 3, 4, 5, 0};
        int[] lengths = {3, 4, 10, 11, 17, 31, 59, 115, 227, 258};
        for (int i = 0; i < codes.length; i++) {
            for (int size = 299; size <= 303; size++) {
                PackedData packed = new PackedData().plain(false, new int[size - lengths[i]])
                    .block(true, 1).copy(codes[i], 0, bits[i], 0, 0, 0).gives(lengths[i], 1).end();
                due(size + " bytes by a copy of " + lengths[i], size <= 300 ? ROWS : STREAM,
                    packed.bytes());
                if (size > 300) {
                    due(size + " bytes with the sum of 300", STREAM,
                        withSum(packed, PackedData.sumOf(new byte[300])));
                }
            }
        }
    }

    private static void threeHundredBytesByLiterals() {
        for (int size = 298; size <= 302; size++) {
            PackedData packed = new PackedData().plain(false, new int[290]).block(true, 1)
                .literals(new int[size - 290]).end();
            due(size + " bytes by literals", size <= 300 ? ROWS : STREAM, packed.bytes());
            if (size > 300) {
                due(size + " bytes with the sum of 300", STREAM,
                    withSum(packed, PackedData.sumOf(new byte[300])));
            }
        }
    }

    private static void threeHundredBytesPlain() {
        for (int size = 298; size <= 302; size++) {
            due(size + " plain bytes", size <= 300 ? ROWS : STREAM,
                new PackedData().plain(true, new int[size]).bytes());
            due(size + " plain bytes in two", size <= 300 ? ROWS : STREAM, new PackedData()
                .plain(false, new int[150]).plain(true, new int[size - 150]).bytes());
            due(size + " plain bytes and none", size <= 300 ? ROWS : STREAM,
                new PackedData().plain(false, new int[size]).plain(true).bytes());
            if (size > 300) {
                due(size + " plain bytes with the sum of 300", STREAM, withSum(
                    new PackedData().plain(true, new int[size]),
                    PackedData.sumOf(new byte[300])));
            }
        }
        int[] many = new int[300];
        Arrays.fill(many, 255);
        due("300 bytes 255", ROWS, new PackedData().plain(true, many).bytes());
    }
}
