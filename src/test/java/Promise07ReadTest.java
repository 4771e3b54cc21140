import java.util.Arrays;

/** Promise 7: read. The files are built here, byte by byte, with the library's checksums. */
public final class Promise07ReadTest {
    /** A picture of one row and three columns, grey of depth 8: 5, 6, 7. */
    private static final byte[] HEAD = Chunks.head(0, 8, 3, 1, false);
    private static final byte[] PACKED = new PackedData().plain(true, 0, 5, 6, 7).bytes();
    private static final byte[] DATA = Chunks.chunk("IDAT", PACKED);
    private static final byte[] LAST = Chunks.LAST;

    public static void main(String[] args) {
        rightFiles();
        frames();
        chunkOrder();
        numbersTooGreat();
        heads();
        lastWithBytes();
        firstBytesOfPacked();
        endsOfPacked();
        plainBlocks();
        codeBlocks();
        copies();
        refusedCodes();
        longData();
        rowsOfData();
        bitsLeftOver();
        filtersUndone();
        pictureStays();
        readsInTurn();
        firstOfTheAnswers();
        Checks.end();
    }

    private static void due(String what, int want, byte[]... chunks) {
        SevenPassImage x = Chunks.holding(Chunks.file(chunks));
        Checks.due(what, x.read(), want);
        Checks.due(what + ": shape", x.shape(), want == 0 ? 80301 : 10101);
        if (want == 0) {
            Checks.due(what + ": get", x.get(2, 0, 0), 7);
        }
    }

    private static void duePacked(String what, int want, byte[] packed) {
        due(what, want, HEAD, Chunks.chunk("IDAT", packed), LAST);
    }

    private static void rightFiles() {
        due("plain", 0, HEAD, DATA, LAST);
        due("with other chunks", 0, HEAD, Chunks.chunk("tEXt", 1, 2), Chunks.chunk("zzzz"), DATA,
            Chunks.chunk("iDAT", 9), Chunks.chunk("aEND"), LAST);
        due("an other chunk with any bytes behind the first", 0, HEAD,
            Chunks.chunk("\u00e9\0\u0001\u00ff", 3), DATA, LAST);
        for (int cut = 0; cut <= PACKED.length; cut++) {
            due("two DATA, cut at " + cut, 0, HEAD,
                Chunks.chunk("IDAT", Arrays.copyOf(PACKED, cut)),
                Chunks.chunk("IDAT", Arrays.copyOfRange(PACKED, cut, PACKED.length)), LAST);
        }
    }

    private static void frames() {
        byte[] file = Chunks.file(HEAD, DATA, LAST);
        for (int k = 0; k < file.length; k++) {
            SevenPassImage x = Chunks.holding(file);
            Checks.due("poke", x.poke(k, (file[k] & 255) ^ 1), true);
            Checks.due("read with byte " + k + " spoiled", x.read(), SevenPassImage.FRAME);
            x.poke(k, file[k] & 255);
            Checks.due("read with byte " + k + " mended", x.read(), 0);
        }
        SevenPassImage x = Chunks.holding(file);
        for (int n = file.length - 1; n >= 0; n--) {
            Checks.due("trim", x.trim(n), true);
            Checks.due("read of " + n + " bytes", x.read(), SevenPassImage.FRAME);
        }
        for (int more = 1; more <= 13; more++) {
            Checks.due("read with " + more + " bytes more", Chunks.read(
                PackedData.joined(file, new byte[more])), SevenPassImage.FRAME);
        }
    }

    private static void chunkOrder() {
        int frame = SevenPassImage.FRAME;
        byte[] other = Chunks.chunk("tEXt", 1);
        due("no chunks", frame);
        due("HEAD alone", frame, HEAD);
        due("LAST alone", frame, LAST);
        due("no DATA", frame, HEAD, LAST);
        due("no DATA but an other", frame, HEAD, other, LAST);
        due("no HEAD", frame, DATA, LAST);
        due("no LAST", frame, HEAD, DATA);
        due("an other before HEAD", frame, other, HEAD, DATA, LAST);
        due("DATA before HEAD", frame, DATA, HEAD, LAST);
        due("two HEAD", frame, HEAD, HEAD, DATA, LAST);
        due("HEAD behind DATA", frame, HEAD, DATA, HEAD, LAST);
        due("HEAD at the end", frame, HEAD, DATA, HEAD);
        due("two LAST", frame, HEAD, DATA, LAST, LAST);
        due("LAST before DATA", frame, HEAD, LAST, DATA);
        due("LAST between", frame, HEAD, LAST, DATA, LAST);
        due("an other behind LAST", frame, HEAD, DATA, LAST, other);
        due("an other between DATA", frame, HEAD, DATA, other, Chunks.chunk("IDAT"), LAST);
        due("a type without the bit", frame, HEAD, Chunks.chunk("TExt", 1), DATA, LAST);
        due("a type without the bit behind DATA", frame, HEAD, DATA, Chunks.chunk("PLTE"), LAST);
        due("DATA with one other letter", frame, HEAD, DATA, Chunks.chunk("IDAt"), LAST);
    }

    private static void numbersTooGreat() {
        int[][] numbers = {{255, 255, 255, 255}, {128, 0, 0, 13}, {127, 255, 255, 255},
            {255, 255, 255, 244}, {0, 0, 1, 13}, {0, 1, 0, 13}, {0, 0, 0, 200}};
        for (int[] number : numbers) {
            for (int at : new int[] {8, 33}) {
                SevenPassImage x = Chunks.holding(Chunks.file(HEAD, DATA, LAST));
                for (int i = 0; i < 4; i++) {
                    x.poke(at + i, number[i]);
                }
                Checks.due("a great number at " + at, x.read(), SevenPassImage.FRAME);
            }
        }
    }

    private static void dueHead(String what, int want, int... content) {
        due(what, want, Chunks.chunk("IHDR", content), DATA, LAST);
    }

    private static void heads() {
        int header = SevenPassImage.HEADER;
        dueHead("right HEAD", 0, 0, 0, 0, 3, 0, 0, 0, 1, 8, 0, 0, 0, 0);
        dueHead("12 bytes", header, 0, 0, 0, 3, 0, 0, 0, 1, 8, 0, 0, 0);
        dueHead("14 bytes", header, 0, 0, 0, 3, 0, 0, 0, 1, 8, 0, 0, 0, 0, 0);
        dueHead("no bytes", header);
        dueHead("w 0", header, 0, 0, 0, 0, 0, 0, 0, 1, 8, 0, 0, 0, 0);
        dueHead("w 9", header, 0, 0, 0, 9, 0, 0, 0, 1, 8, 0, 0, 0, 0);
        dueHead("h 0", header, 0, 0, 0, 3, 0, 0, 0, 0, 8, 0, 0, 0, 0);
        dueHead("h 9", header, 0, 0, 0, 3, 0, 0, 0, 9, 8, 0, 0, 0, 0);
        for (int k = 0; k < 3; k++) {
            for (int b : new int[] {1, 128, 255}) {
                int[] content = {0, 0, 0, 3, 0, 0, 0, 1, 8, 0, 0, 0, 0};
                content[k] = b;
                dueHead("a great w", header, content);
                content[k] = 0;
                content[k + 4] = b;
                dueHead("a great h", header, content);
            }
        }
        for (int b = 1; b < 256; b += b < 16 ? 1 : 48) {
            dueHead("byte 10 " + b, header, 0, 0, 0, 3, 0, 0, 0, 1, 8, 0, b, 0, 0);
            dueHead("byte 11 " + b, header, 0, 0, 0, 3, 0, 0, 0, 1, 8, 0, 0, b, 0);
            int way = b == 1 ? SevenPassImage.ROWS : header;
            dueHead("way " + b, way, 0, 0, 0, 3, 0, 0, 0, 1, 8, 0, 0, 0, b);
            boolean depthFits = b == 1 || b == 2 || b == 4;
            if (b != 8) {
                dueHead("depth " + b, depthFits ? SevenPassImage.ROWS : header,
                    0, 0, 0, 3, 0, 0, 0, 1, b, 0, 0, 0, 0);
            }
            boolean kindFits = b == 2 || b == 4 || b == 6;
            dueHead("kind " + b, kindFits ? SevenPassImage.ROWS : header,
                0, 0, 0, 3, 0, 0, 0, 1, 8, b, 0, 0, 0);
            dueHead("kind " + b + " of depth 4", header, 0, 0, 0, 3, 0, 0, 0, 1, 4, b, 0, 0, 0);
        }
        dueHead("depth 0", header, 0, 0, 0, 3, 0, 0, 0, 1, 0, 0, 0, 0, 0);
    }

    private static void lastWithBytes() {
        due("LAST with a byte", SevenPassImage.HEADER, HEAD, DATA, Chunks.chunk("IEND", 0));
    }

    private static void firstBytesOfPacked() {
        for (int p = 0; p < 256; p++) {
            for (int q = 0; q < 256; q++) {
                boolean near = p % 16 == 8 || p == 120 || q % 32 == 1;
                if (!near || (256 * p + q) % 31 != 0 && (p != 120 || q % 16 != 1)) {
                    continue;
                }
                boolean right = p % 16 == 8 && p < 128 && (256 * p + q) % 31 == 0
                    && q / 32 % 2 == 0;
                byte[] packed = PACKED.clone();
                packed[0] = (byte) p;
                packed[1] = (byte) q;
                duePacked("first bytes " + p + "," + q, right ? 0 : SevenPassImage.STREAM, packed);
            }
        }
    }

    private static void endsOfPacked() {
        byte[] coded = new PackedData().block(true, 1).literals(0, 5, 6, 7).end().bytes();
        for (byte[] packed : new byte[][] {PACKED, coded}) {
            for (int n = 0; n < packed.length; n++) {
                duePacked("packed data cut to " + n, SevenPassImage.STREAM,
                    Arrays.copyOf(packed, n));
            }
            duePacked("a byte more", SevenPassImage.STREAM, Arrays.copyOf(packed,
                packed.length + 1));
            for (int k = packed.length - 4; k < packed.length; k++) {
                byte[] spoiled = packed.clone();
                spoiled[k] ^= (byte) 128;
                duePacked("a wrong sum", SevenPassImage.STREAM, spoiled);
            }
        }
        byte[] fewer = PackedData.joined(
            new PackedData().block(true, 1).literals(0, 5, 6, 7).withoutSum(),
            PackedData.number(PackedData.sumOf(Chunks.bytes(0, 5, 6, 7))));
        duePacked("without END", SevenPassImage.STREAM, fewer);
        duePacked("without a last block", SevenPassImage.STREAM,
            new PackedData().block(false, 1).literals(0, 5, 6, 7).end().bytes());
        duePacked("filled up with 1", 0,
            new PackedData().fillWith('1').block(true, 1).literals(0, 5, 6, 7).end().bytes());
    }

    private static void plainBlocks() {
        duePacked("passed over bits of 1", 0,
            new PackedData().fillWith('1').plain(true, 0, 5, 6, 7).bytes());
        duePacked("several blocks", 0, new PackedData().plain(false, 0, 5).plain(false)
            .block(false, 1).literals(6).end().plain(true, 7).bytes());
        duePacked("coded last", 0, new PackedData().plain(false, 0, 5).block(false, 1).end()
            .block(true, 1).literals(6, 7).end().bytes());
        formsAnywhere();
        for (int i = 0; i < 16; i++) {
            PackedData wrong = new PackedData().block(true, 0).fillByte().lowestFirst(4, 16)
                .lowestFirst(65531 ^ 1 << i, 16);
            wrong.lowestFirst(0, 8).lowestFirst(5, 8).lowestFirst(6, 8).lowestFirst(7, 8);
            duePacked("a wrong 65535 - n", SevenPassImage.STREAM, PackedData.joined(
                wrong.withoutSum(), PackedData.number(PackedData.sumOf(Chunks.bytes(0, 5, 6, 7)))));
        }
        duePacked("a great n", SevenPassImage.STREAM, PackedData.joined(new PackedData()
            .block(true, 0).fillByte().lowestFirst(65535, 16).lowestFirst(0, 16).withoutSum(),
            new byte[100]));
    }

    /** A block of form 0 behind any number of bits of a byte, and just behind a whole one. */
    private static void formsAnywhere() {
        boolean[] met = new boolean[8];
        for (int nines = 0; nines < 2; nines++) {
            for (int empties = 0; empties < 8; empties++) {
                PackedData packed = new PackedData().fillWith('1').block(false, 1);
                packed.literals(0, nines == 0 ? 100 : 200).end();
                for (int i = 0; i < empties; i++) {
                    packed.block(false, 1).end();
                }
                met[(3 + 8 + 8 + nines + 7 + 10 * empties + 3) % 8] = true;
                SevenPassImage x = Chunks.holding(Chunks.whole(HEAD,
                    packed.plain(true, 6, 7).bytes()));
                Checks.due("form 0 behind " + empties + " empty blocks", x.read(), 0);
                Checks.due("column 0", x.get(0, 0, 0), nines == 0 ? 100 : 200);
                Checks.due("column 1", x.get(1, 0, 0), 6);
                Checks.due("column 2", x.get(2, 0, 0), 7);
            }
        }
        for (int bit = 0; bit < 8; bit++) {
            Checks.due("a form that ends behind bit " + bit, met[bit], true);
        }
    }

    private static void codeBlocks() {
        // All bytes 0 .. 255 as samples of a colour picture with a mask, filter 0.
        PackedData packed = new PackedData().block(true, 1);
        for (int y = 0; y < 8; y++) {
            packed.literals(0);
            for (int k = 0; k < 32; k++) {
                packed.literals(32 * y + k);
            }
        }
        SevenPassImage x = Chunks.holding(
            Chunks.whole(Chunks.head(6, 8, 8, 8, false), packed.end().bytes()));
        Checks.due("read of all bytes", x.read(), 0);
        Checks.due("shape", x.shape(), 6080808);
        for (int b = 0; b < 256; b += b == 130 ? 13 : 5) {
            Checks.due("byte " + b, x.get(b / 4 % 8, b / 32, b % 4), b);
        }
        Checks.due("byte 255", x.get(7, 7, 3), 255);
        duePacked("form 2", SevenPassImage.STREAM,
            new PackedData().block(true, 2).literals(0, 5, 6, 7).end().bytes());
        duePacked("form 3", SevenPassImage.STREAM,
            new PackedData().block(true, 3).literals(0, 5, 6, 7).end().bytes());
        for (int form = 2; form <= 3; form++) {
            duePacked("form " + form + " behind all data", SevenPassImage.STREAM,
                new PackedData().plain(false, 0, 5, 6, 7).block(true, form).bytes());
            duePacked("form " + form + " before all data", SevenPassImage.STREAM,
                new PackedData().block(false, form).plain(true, 0, 5, 6, 7).bytes());
        }
    }

    /** Reads data that begin with 0 and the bytes, then a copy, then 0 up to 264 bytes in all. */
    private static void dueCopy(PackedData packed, int length, String what) {
        int rest = 264 - packed.data().length;
        packed.end().plain(true, new int[rest]);
        SevenPassImage x = Chunks.holding(
            Chunks.whole(Chunks.head(6, 8, 8, 8, false), packed.bytes()));
        Checks.due(what + " of " + length, x.read(), 0);
        Checks.due(what + ": copies", x.copies(), 1);
        for (int k = 1; k <= 32; k += 4) {
            Checks.due(what + ": byte " + k, x.get((k - 1) / 4, 0, 0), packed.data()[k] & 255);
        }
    }

    private static void copies() {
        int code = 257;
        for (int bits = 0; bits <= 5; bits++) {
            int codes = bits == 0 ? 8 : 4;
            int least = bits == 0 ? 3 : 3 + (4 << bits);
            for (int i = 0; i < codes; i++) {
                for (int x : new int[] {0, (1 << bits) - 1}) {
                    int length = least + (i << bits) + x;
                    // Zeros, so that the filters of all rows are right.
                    PackedData packed = new PackedData().block(false, 1).literals(0)
                        .copy(code, x, bits, 0, 0, 0).gives(length, 1);
                    dueCopy(packed, length, "code " + code);
                }
                code++;
            }
        }
        dueCopy(new PackedData().block(false, 1).literals(0).copy(285, 0, 0, 0, 0, 0)
            .gives(258, 1), 258, "code 285");
        for (int t = 0; t < 10; t++) {
            int bits = t < 4 ? 0 : t / 2 - 1;
            int[] least = {1, 2, 3, 4, 5, 7, 9, 13, 17, 25};
            for (int y = 0; y < 1 << bits; y++) {
                int distance = least[t] + y;
                PackedData packed = new PackedData().block(false, 1).literals(0);
                for (int k = 1; k < distance; k++) {
                    packed.literals(100 + k);
                }
                packed.copy(257, 0, 0, t, y, bits).gives(3, distance);
                // What goes beyond byte 32 would lie where the second row has its filter.
                if (distance <= 30) {
                    dueCopy(packed, 3, "distance " + distance);
                }
            }
        }
        farCopy();
    }

    private static void farCopy() {
        // The first row's bytes once more, from 231 bytes before; t 15 begins with 193.
        PackedData packed = new PackedData().block(true, 1);
        int[] row = new int[33];
        for (int k = 1; k < 33; k++) {
            row[k] = 7 * k;
        }
        packed.literals(row).literals(new int[198]);
        packed.copy(273, 1, 3, 15, 231 - 193, 6).gives(36, 231);
        SevenPassImage x = Chunks.holding(Chunks.whole(Chunks.head(6, 8, 8, 8, false),
            packed.end().bytes()));
        Checks.due("three bytes too many", x.read(), SevenPassImage.ROWS);
        packed = new PackedData().block(true, 1).literals(row).literals(new int[198]);
        packed.copy(271, 3, 2, 15, 231 - 193, 6).gives(30, 231).literals(1, 2, 3);
        x = Chunks.holding(Chunks.whole(Chunks.head(6, 8, 8, 8, false), packed.end().bytes()));
        Checks.due("a far copy", x.read(), 0);
        Checks.due("its first byte", x.get(0, 7, 0), 7);
        Checks.due("its last byte", x.get(7, 7, 0), 7 * 29 % 256);
        Checks.due("the byte behind it", x.get(7, 7, 1), 1);
    }

    private static void refusedCodes() {
        for (int code = 286; code <= 287; code++) {
            duePacked("code " + code, SevenPassImage.STREAM, new PackedData().block(true, 1)
                .literals(0, 5, 6, 7).highestFirst(code - 88, 8).highestFirst(0, 5).end().bytes());
        }
        // The words of 286 and 287 with a bit behind them are no literals 140 .. 143 either.
        for (int literal = 140; literal <= 143; literal++) {
            byte[] packed = new PackedData().block(true, 1).literals(0, 5, 6)
                .highestFirst(256 + literal, 9).end().withoutSum();
            byte[] sum = PackedData.number(PackedData.sumOf(Chunks.bytes(0, 5, 6, literal)));
            duePacked("nine bits of " + literal, SevenPassImage.STREAM,
                PackedData.joined(packed, sum));
        }
        for (int t = 4; t <= 31; t++) {
            int bits = t < 30 ? t / 2 - 1 : 0;
            duePacked("a distance too great, t " + t, SevenPassImage.STREAM, new PackedData()
                .block(true, 1).literals(0, 5, 6, 7).copy(257, 0, 0, t, 0, bits).end().bytes());
        }
        for (int t = 0; t < 5; t++) {
            // One byte behind the block's beginning: only distance 1 is there.
            PackedData packed = new PackedData().block(true, 1).literals(0)
                .copy(257, 0, 0, t, 0, t == 4 ? 1 : 0).gives(3, 1).end();
            SevenPassImage x = Chunks.holding(Chunks.whole(HEAD, packed.bytes()));
            Checks.due("distance " + (t + 1) + " of one", x.read(),
                t == 0 ? 0 : SevenPassImage.STREAM);
        }
        duePacked("a copy without anything before it", SevenPassImage.STREAM, new PackedData()
            .block(true, 1).copy(257, 0, 0, 0, 0, 0).end().bytes());
        // A copy may reach back over the blocks.
        SevenPassImage x = Chunks.holding(Chunks.whole(HEAD, new PackedData().plain(false, 0)
            .block(true, 1).copy(257, 0, 0, 0, 0, 0).gives(3, 1).end().bytes()));
        Checks.due("a copy out of the block before", x.read(), 0);
    }

    private static void longData() {
        int rows = SevenPassImage.ROWS;
        int stream = SevenPassImage.STREAM;
        duePacked("299 bytes", rows, zeros(true, 40).end().bytes());
        duePacked("300 bytes", rows, zeros(true, 40).literals(0).end().bytes());
        duePacked("300 bytes by a copy", rows, zeros(true, 41).end().bytes());
        duePacked("301 bytes", stream, zeros(true, 40).literals(0, 0).end().bytes());
        duePacked("301 bytes by a copy", stream, zeros(true, 42).end().bytes());
        duePacked("300 bytes, the last one plain", rows,
            zeros(false, 40).end().plain(true, 0).bytes());
        duePacked("301 bytes, the last two plain", stream,
            zeros(false, 40).end().plain(true, 0, 0).bytes());
        byte[] sumOf300 = PackedData.number(PackedData.sumOf(new byte[300]));
        duePacked("301 bytes with the sum of 300", stream,
            PackedData.joined(zeros(true, 42).end().withoutSum(), sumOf300));
        duePacked("301 bytes, the last two plain, with the sum of 300", stream,
            PackedData.joined(zeros(false, 40).end().plain(true, 0, 0).withoutSum(), sumOf300));
    }

    /** A block of 259 bytes 0, and of 35 to 42 more by one copy. */
    private static PackedData zeros(boolean last, int more) {
        return new PackedData().block(last, 1).literals(0).copy(285, 0, 0, 0, 0, 0).gives(258, 1)
            .copy(273, more - 35, 3, 0, 0, 0).gives(more, 1);
    }

    private static void rowsOfData() {
        int rows = SevenPassImage.ROWS;
        duePacked("no data", rows, new PackedData().plain(true).bytes());
        duePacked("a byte too few", rows, new PackedData().plain(true, 0, 5, 6).bytes());
        duePacked("a byte too many", rows, new PackedData().plain(true, 0, 5, 6, 7, 0).bytes());
        for (int filter : new int[] {5, 6, 128, 255}) {
            duePacked("filter " + filter, rows,
                new PackedData().plain(true, filter, 5, 6, 7).bytes());
        }
        SevenPassImage x = Chunks.holding(Chunks.whole(Chunks.head(0, 8, 1, 2, false),
            new PackedData().plain(true, 0, 1, 5, 2).bytes()));
        Checks.due("a wrong filter in the second row", x.read(), rows);
        Checks.due("shape", x.shape(), 10101);
        x = Chunks.holding(Chunks.whole(Chunks.head(0, 8, 3, 1, true),
            new PackedData().plain(true, 0, 5, 0, 7, 0, 6).bytes()));
        Checks.due("seven passes", x.read(), 0);
        Checks.due("column 0", x.get(0, 0, 0), 5);
        Checks.due("column 1", x.get(1, 0, 0), 6);
        Checks.due("column 2", x.get(2, 0, 0), 7);
    }

    private static void bitsLeftOver() {
        // Three samples of one bit: 101 and 11111 left over; the second row adds 1 to it: 110.
        SevenPassImage x = Chunks.holding(Chunks.whole(Chunks.head(0, 1, 3, 2, false),
            new PackedData().plain(true, 0, 0xBF, 2, 1).bytes()));
        Checks.due("read", x.read(), 0);
        int[] want = {1, 0, 1, 1, 1, 0};
        for (int k = 0; k < 6; k++) {
            Checks.due("get " + k, x.get(k % 3, k / 3, 0), want[k]);
        }
        Checks.due("write", x.write(false, 0) > 0, true);
        SevenPassImage y = new SevenPassImage();
        y.begin(0, 1, 3, 2);
        for (int k = 0; k < 6; k++) {
            y.set(k % 3, k / 3, 0, want[k]);
        }
        Checks.due("write of the like", y.write(false, 0), x.length());
        for (int k = 0; k < x.length(); k++) {
            Checks.due("byte " + k, x.byteAt(k), y.byteAt(k));
        }
    }

    private static void filtersUndone() {
        int[][] data = {
            {0, 10, 200, 30, 0, 250, 5, 90}, {1, 10, 190, 86, 1, 250, 11, 85},
            {2, 10, 200, 30, 2, 240, 61, 60}, {3, 10, 195, 186, 3, 245, 36, 73},
            {4, 10, 190, 86, 4, 240, 11, 85}, {1, 10, 190, 86, 2, 240, 61, 60}};
        int[] want = {10, 200, 30, 250, 5, 90};
        for (int[] one : data) {
            SevenPassImage x = Chunks.holding(Chunks.whole(Chunks.head(0, 8, 3, 2, false),
                new PackedData().plain(true, one).bytes()));
            Checks.due("read", x.read(), 0);
            for (int k = 0; k < 6; k++) {
                Checks.due("filter " + one[0] + " sample " + k, x.get(k % 3, k / 3, 0), want[k]);
            }
        }
    }

    private static void pictureStays() {
        byte[][] wrong = {
            Chunks.file(HEAD, LAST),
            Chunks.file(Chunks.chunk("IHDR"), DATA, LAST),
            Chunks.whole(HEAD, Arrays.copyOf(PACKED, 9)),
            Chunks.whole(HEAD, new PackedData().block(true, 1).literals(4)
                .copy(257, 0, 0, 0, 0, 0).gives(3, 1).literals(0).end().bytes()),
            Chunks.whole(Chunks.head(0, 8, 1, 2, false),
                new PackedData().plain(true, 4, 1, 5, 2).bytes())};
        int[] answers = {-2, -3, -4, -5, -5};
        for (int i = 0; i < wrong.length; i++) {
            SevenPassImage x = new SevenPassImage();
            x.begin(2, 8, 2, 3);
            x.set(1, 2, 1, 99);
            x.write(true, 3);
            int rows = x.rows(3);
            int copies = x.copies();
            x.set(0, 1, 2, 98);
            x.trim(0);
            Chunks.fill(x, wrong[i]);
            Checks.due("read", x.read(), answers[i]);
            Checks.due("shape", x.shape(), 2080203);
            for (int k = 0; k < 18; k++) {
                int due = k == 16 ? 99 : k == 8 ? 98 : 0;
                Checks.due("get " + k, x.get(k / 3 % 2, k / 6, k % 3), due);
            }
            Checks.due("rows of filter 3", x.rows(3), rows);
            Checks.due("rows of filter 4", x.rows(4), 0);
            Checks.due("copies", x.copies(), copies);
            Checks.due("length", x.length(), wrong[i].length);
        }
    }

    /** What one read met leaves no trace in the next one. */
    private static void readsInTurn() {
        byte[] right = Chunks.file(HEAD, DATA, LAST);
        byte[][] wrong = {
            Chunks.file(HEAD, LAST),
            Chunks.file(Chunks.chunk("IHDR"), DATA, LAST),
            Chunks.file(HEAD, DATA, Chunks.chunk("IEND", 7)),
            Chunks.whole(HEAD, Arrays.copyOf(PACKED, 2)),
            Chunks.whole(HEAD, Arrays.copyOf(PACKED, 9)),
            Chunks.whole(HEAD, new PackedData().block(true, 1).literals(0, 5).withoutSum()),
            Chunks.whole(HEAD, new PackedData().block(true, 2).bytes()),
            Chunks.whole(HEAD, new PackedData().block(true, 1).copy(257, 0, 0, 0, 0, 0).bytes()),
            Chunks.whole(HEAD, zeros(true, 42).end().bytes()),
            Chunks.whole(HEAD, new PackedData().plain(true, 5, 5, 6, 7).bytes())};
        int[] answers = {-2, -3, -3, -4, -4, -4, -4, -4, -4, -5};
        for (int i = 0; i < wrong.length; i++) {
            SevenPassImage x = Chunks.holding(wrong[i]);
            Checks.due("wrong file " + i, x.read(), answers[i]);
            x.trim(0);
            Chunks.fill(x, right);
            Checks.due("the right one behind wrong file " + i, x.read(), 0);
            Checks.due("get", x.get(1, 0, 0), 6);
            Checks.due("write", x.write(true, 4) > 0, true);
            Checks.due("read of what was written", x.read(), 0);
            x.trim(0);
            Chunks.fill(x, wrong[i]);
            Checks.due("wrong file " + i + " again", x.read(), answers[i]);
            Checks.due("get", x.get(2, 0, 0), 7);
        }
    }

    private static void firstOfTheAnswers() {
        byte[] badHead = Chunks.chunk("IHDR", 1);
        byte[] badData = Chunks.chunk("IDAT", 1);
        byte[] fewData = Chunks.chunk("IDAT", new PackedData().plain(true, 9).bytes());
        byte[] fewAndSpoiled = fewData.clone();
        due("FRAME before all", SevenPassImage.FRAME, badHead, badData, LAST, LAST);
        due("HEADER before STREAM", SevenPassImage.HEADER, badHead, badData, LAST);
        due("HEADER before STREAM by LAST", SevenPassImage.HEADER, HEAD, badData,
            Chunks.chunk("IEND", 1));
        due("HEADER before ROWS", SevenPassImage.HEADER, badHead, fewData, LAST);
        due("ROWS", SevenPassImage.ROWS, HEAD, fewData, LAST);
        fewAndSpoiled[fewAndSpoiled.length - 5] ^= 1;
        due("FRAME before STREAM", SevenPassImage.FRAME, HEAD, fewAndSpoiled, LAST);
        SevenPassImage x = Chunks.holding(Chunks.file(HEAD, fewAndSpoiled, LAST));
        Checks.due("seal", x.seal(33), true);
        Checks.due("STREAM before ROWS", x.read(), SevenPassImage.STREAM);
    }
}
