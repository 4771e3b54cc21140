import java.util.Arrays;

/** Promise 7: read. What each answer stands for is in the tests of the terms; here their order. */
public final class Promise07ReadTest {
    private static final int FRAMES = 9;
    private static final int HEADERS = 11;
    private static final int STREAMS = 11;
    private static final int ROW_FLAWS = 6;
    /** A picture of one row and three columns, grey of depth 8: 5, 6, 7. */
    private static final byte[] HEAD = Chunks.head(0, 8, 3, 1, false);
    private static final byte[] PACKED = new PackedData().plain(true, 0, 5, 6, 7).bytes();
    private static final byte[] DATA = Chunks.chunk("IDAT", PACKED);
    private static final byte[] LAST = Chunks.LAST;

    public static void main(String[] args) {
        rightFiles();
        filtersUndone();
        firstOfTheAnswers();
        pictureStays();
        fileStays();
        allOfThePictureIsNew();
        readsInTurn();
        Checks.end();
    }

    private static void due(String what, int want, byte[]... chunks) {
        SevenPassImage x = Chunks.holding(Chunks.file(chunks));
        Checks.due(what, x.read(), want);
        Checks.due(what + ": shape", x.shape(), want == 0 ? 80301 : 10101);
        if (want == 0) {
            Pictures.dueSamples(what, x, 5, 6, 7);
        }
    }

    private static void rightFiles() {
        due("plain", 0, HEAD, DATA, LAST);
        due("with other chunks", 0, HEAD, Chunks.chunk("tEXt", 1, 2), Chunks.chunk("zzzz"), DATA,
            Chunks.chunk("iDAT", 9), Chunks.chunk("aEND"), LAST);
        due("with codes", 0, HEAD, Chunks.chunk("IDAT",
            new PackedData().block(true, 1).literals(0, 5, 6, 7).end().bytes()), LAST);
        SevenPassImage x = Chunks.holding(Chunks.whole(Chunks.head(0, 8, 3, 1, true),
            new PackedData().plain(true, 0, 5, 0, 7, 0, 6).bytes()));
        Checks.due("seven passes", x.read(), 0);
        Pictures.dueSamples("seven passes", x, 5, 6, 7);
    }

    private static void filtersUndone() {
        int[][] data = {
            {0, 10, 200, 30, 0, 250, 5, 90}, {1, 10, 190, 86, 1, 250, 11, 85},
            {2, 10, 200, 30, 2, 240, 61, 60}, {3, 10, 195, 186, 3, 245, 36, 73},
            {4, 10, 190, 86, 4, 240, 11, 85}, {1, 10, 190, 86, 2, 240, 61, 60}};
        for (int[] one : data) {
            SevenPassImage x = Chunks.holding(Chunks.whole(Chunks.head(0, 8, 3, 2, false),
                new PackedData().plain(true, one).bytes()));
            Checks.due("read", x.read(), 0);
            Pictures.dueSamples("filter " + one[0], x, 10, 200, 30, 250, 5, 90);
        }
    }

    /** "the first of these": every flaw with every other one, and without. */
    private static void firstOfTheAnswers() {
        for (int frame = 0; frame < FRAMES; frame++) {
            for (int header = 0; header < HEADERS; header++) {
                for (int stream = 0; stream < STREAMS; stream++) {
                    for (int row = 0; row < ROW_FLAWS; row++) {
                        SevenPassImage x = Chunks.holding(flawed(frame, header, stream, row));
                        int want = answer(frame, header, stream, row);
                        Checks.due("flaws " + frame + "," + header + "," + stream + "," + row,
                            x.read(), want);
                        Checks.due("shape", x.shape(), want == 0 ? 80102 : 10101);
                    }
                }
            }
        }
    }

    private static int answer(int frame, int header, int stream, int row) {
        return frame != 0 ? SevenPassImage.FRAME : header != 0 ? SevenPassImage.HEADER
            : stream != 0 ? SevenPassImage.STREAM : row != 0 ? SevenPassImage.ROWS : 0;
    }

    /** A file of one column and two rows with these flaws; 0 stands for none. */
    private static byte[] flawed(int frame, int header, int stream, int row) {
        byte[] head = Chunks.chunk("IHDR", headWith(header));
        byte[] data = Chunks.chunk("IDAT", packedWith(stream, dataWith(row)));
        byte[] last = header == 10 ? Chunks.chunk("IEND", 0) : LAST;
        byte[] file = Chunks.file(head, data, last);
        switch (frame) {
            case 1:
                file[0] = 9;
                return file;
            case 2:
                file[file.length - 1] ^= 1;
                return file;
            case 3:
                return PackedData.joined(file, new byte[1]);
            case 4:
                return Chunks.file(head, data, LAST, last);
            case 5:
                return Chunks.file(head, data);
            case 6:
                return Chunks.file(head, data, Chunks.chunk("OTHR"), last);
            case 7:
                return Chunks.file(head, data, Chunks.chunk("oTHR"), Chunks.chunk("IDAT"), last);
            case 8:
                return Chunks.file(data, head, last);
            default:
                return file;
        }
    }

    private static int[] headWith(int header) {
        int[] head = {0, 0, 0, 1, 0, 0, 0, 2, 8, 0, 0, 0, 0};
        int[][] changes = {{3, 0}, {7, 9}, {8, 3}, {9, 1}, {10, 1}, {11, 1}, {12, 2}};
        if (header == 1 || header == 2) {
            return Arrays.copyOf(head, header == 1 ? 12 : 14);
        }
        if (header >= 3 && header <= 9) {
            head[changes[header - 3][0]] = changes[header - 3][1];
        }
        return head;
    }

    private static byte[] packedWith(int stream, int[] data) {
        PackedData plain = new PackedData().plain(true, data);
        byte[] right = plain.bytes();
        switch (stream) {
            case 1:
                return plain.start(120, 2).bytes();
            case 2:
                return new PackedData().block(true, 2).literals(data).end().bytes();
            case 3:
                return new PackedData().block(true, 3).literals(data).end().bytes();
            case 4:
                return Arrays.copyOf(right, right.length - 1);
            case 5:
                return Arrays.copyOf(right, right.length + 1);
            case 6:
                right[right.length - 1] ^= 1;
                return right;
            case 7:
                return new PackedData().block(true, 1).literals(data).copy(257, 0, 0, 9, 0, 3)
                    .end().bytes();
            case 8:
                return new PackedData().block(true, 1).literals(data).highestFirst(286 - 88, 8)
                    .end().bytes();
            case 9:
                return new PackedData().block(true, 1).literals(data).copy(285, 0, 0, 0, 0, 0)
                    .copy(285, 0, 0, 0, 0, 0).end().bytes();
            case 10:
                return new byte[0];
            default:
                return right;
        }
    }

    private static int[] dataWith(int row) {
        int[][] data = {{3, 1, 4, 2}, {3, 1, 4}, {3, 1, 4, 2, 0}, {5, 1, 4, 2}, {3, 1, 255, 2}, {}};
        return data[row];
    }

    /** "Otherwise the picture stays", and so do the file, rows and copies. */
    private static void pictureStays() {
        for (int flaw = 1; flaw < FRAMES; flaw++) {
            dueStays("frame " + flaw, flawed(flaw, 0, 0, 0), SevenPassImage.FRAME);
        }
        for (int flaw = 1; flaw < HEADERS; flaw++) {
            dueStays("header " + flaw, flawed(0, flaw, 0, 0), SevenPassImage.HEADER);
        }
        for (int flaw = 1; flaw < STREAMS; flaw++) {
            dueStays("stream " + flaw, flawed(0, 0, flaw, 0), SevenPassImage.STREAM);
        }
        for (int flaw = 1; flaw < ROW_FLAWS; flaw++) {
            dueStays("row " + flaw, flawed(0, 0, 0, flaw), SevenPassImage.ROWS);
        }
        // Copies and rows that were met before the flaw are not counted.
        dueStays("copies before a wrong sum", Chunks.whole(HEAD, PackedData.joined(new PackedData()
            .block(true, 1).literals(0).copy(257, 0, 0, 0, 0, 0).end().withoutSum(), new byte[4])),
            SevenPassImage.STREAM);
        dueStays("copies before a wrong filter", Chunks.whole(Chunks.head(0, 8, 1, 3, false),
            new PackedData().block(true, 1).literals(1).copy(257, 0, 0, 0, 0, 0).gives(3, 1)
                .literals(5, 0).end().bytes()), SevenPassImage.ROWS);
    }

    private static void dueStays(String what, byte[] file, int answer) {
        Refusal.due(what + " in a new object", x -> Chunks.fill(x, file), x -> x.read(), answer);
        Refusal.due(what + " behind a write", x -> {
            x.begin(2, 8, 1, 3);
            Pictures.paint(x, 2, 1, 7, 7, 7, 7, 7, 7, 7, 7, 9);
            x.write(true, 2);
            x.set(0, 1, 2, 98);
            x.trim(0);
            Chunks.fill(x, file);
        }, x -> x.read(), answer);
        Refusal.due(what + " behind a read", x -> {
            x.begin(0, 8, 1, 2);
            Pictures.paint(x, 0, 1, 200, 100);
            x.write(false, 4);
            x.read();
            x.trim(0);
            Chunks.fill(x, file);
        }, x -> x.read(), answer);
    }

    /** A read that answers 0 leaves the file, and a second one gives the same picture. */
    private static void fileStays() {
        byte[] file = flawed(0, 0, 0, 0);
        SevenPassImage x = Chunks.holding(file);
        Checks.due("read", x.read(), 0);
        Checks.due("the file", Arrays.toString(Written.file(x)), Arrays.toString(file));
        String state = State.of(x);
        Checks.due("read again", x.read(), 0);
        Checks.due("state", State.of(x), state);
        Checks.due("rows 3", x.rows(3), 1);
        Checks.due("rows 4", x.rows(4), 1);
    }

    /** "The picture becomes that of the file": shape and all samples, whatever it was before. */
    private static void allOfThePictureIsNew() {
        for (int[] kind : Pictures.KINDS) {
            for (int[] other : Pictures.KINDS) {
                SevenPassImage x = new SevenPassImage();
                x.begin(kind[0], kind[1], 3, 2);
                x.set(1, 1, 0, 1);
                x.write(true, 1);
                x.begin(other[0], other[1], 4, 4);
                for (int k = 0; k < 16; k++) {
                    x.set(k % 4, k / 4, 0, 1);
                    x.set(k % 4, k / 4, 1, 255);
                }
                Checks.due("read", x.read(), 0);
                Checks.due("shape", x.shape(), 1000000 * kind[0] + 10000 * kind[1] + 302);
                int s = Pictures.perPoint(kind[0]);
                int[] want = new int[6 * s];
                want[4 * s] = 1;
                Pictures.dueSamples("all samples", x, want);
                Checks.due("get of the former picture's", x.get(3, 3, 0), SevenPassImage.NONE);
            }
        }
    }

    /** What one read met leaves no trace in the next one. */
    private static void readsInTurn() {
        byte[] right = Chunks.file(HEAD, DATA, LAST);
        byte[][] wrong = {
            flawed(4, 0, 0, 0), flawed(7, 0, 0, 0), flawed(0, 1, 0, 0), flawed(0, 10, 0, 0),
            flawed(0, 0, 2, 0), flawed(0, 0, 4, 0), flawed(0, 0, 7, 0), flawed(0, 0, 9, 0),
            flawed(0, 0, 10, 0), flawed(0, 0, 0, 1), flawed(0, 0, 0, 2), flawed(0, 0, 0, 4),
            Chunks.whole(HEAD, Arrays.copyOf(PACKED, 9)),
            Chunks.whole(HEAD, new PackedData().block(true, 1).literals(0, 5).withoutSum())};
        int[] answers = {-2, -2, -3, -3, -4, -4, -4, -4, -4, -5, -5, -5, -4, -4};
        for (int i = 0; i < wrong.length; i++) {
            SevenPassImage x = Chunks.holding(wrong[i]);
            Checks.due("wrong file " + i, x.read(), answers[i]);
            x.trim(0);
            Chunks.fill(x, right);
            Checks.due("the right one behind wrong file " + i, x.read(), 0);
            Pictures.dueSamples("the right one behind wrong file " + i, x, 5, 6, 7);
            Checks.due("write", x.write(true, 4) > 0, true);
            Checks.due("read of what was written", x.read(), 0);
            x.trim(0);
            Chunks.fill(x, wrong[i]);
            Checks.due("wrong file " + i + " again", x.read(), answers[i]);
            Pictures.dueSamples("behind wrong file " + i, x, 5, 6, 7);
        }
    }
}
