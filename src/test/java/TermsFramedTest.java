import java.util.Arrays;

/** WELL FRAMED: each thing that it asks, with files that lack just that one. */
public final class TermsFramedTest {
    private static final int FRAME = SevenPassImage.FRAME;
    /** A picture of one row and three columns, grey of depth 8: 5, 6, 7. */
    private static final byte[] HEAD = Chunks.head(0, 8, 3, 1, false);
    private static final byte[] PACKED = new PackedData().plain(true, 0, 5, 6, 7).bytes();
    private static final byte[] DATA = Chunks.chunk("IDAT", PACKED);
    private static final byte[] NO_DATA = Chunks.chunk("IDAT");
    private static final byte[] LAST = Chunks.LAST;
    private static final byte[] OTHER = Chunks.chunk("oTHR", 1, 2);

    public static void main(String[] args) {
        changedAtWill();
        theEightBytes();
        fewerThanEightBytes();
        wholeChunks();
        upToTheEnd();
        numbersTooGreat();
        rightChecks();
        firstIsHead();
        onlyOneHead();
        lastIsLast();
        onlyOneLast();
        atLeastOneData();
        dataNextToEachOther();
        otherTypesHaveTheBit();
        nearlyTheKnownTypes();
        othersArePassedOver();
        Checks.end();
    }

    private static void due(String what, int want, byte[]... chunks) {
        SevenPassImage x = Chunks.holding(Chunks.file(chunks));
        Checks.due(what, x.read(), want);
        Checks.due(what + ": shape", x.shape(), want == 0 ? 80301 : 10101);
        if (want == 0) {
            Pictures.dueSamples(what, x, 5, 6, 7);
        }
    }

    /** "Bytes of the file can be changed at will; what is read afterwards is refused unless ..". */
    private static void changedAtWill() {
        byte[] file = Chunks.file(HEAD, DATA, LAST);
        for (int k = 0; k < file.length; k++) {
            SevenPassImage x = Chunks.holding(file);
            for (int flip = 1; flip < 256; flip += flip < 128 ? flip : 127) {
                Checks.due("poke", x.poke(k, file[k] & 255 ^ flip), true);
                Checks.due("read with byte " + k + " changed by " + flip, x.read(), FRAME);
                Checks.due("shape", x.shape(), 10101);
            }
            Checks.due("poke", x.poke(k, file[k] & 255), true);
            Checks.due("read with byte " + k + " mended", x.read(), 0);
        }
    }

    /** "begins with the bytes 137 80 78 71 13 10 26 10": any of them any other one. */
    private static void theEightBytes() {
        byte[] file = Chunks.file(HEAD, DATA, LAST);
        for (int k = 0; k < 8; k++) {
            for (int from = 0; from < 256; from += 128) {
                SevenPassImage x = Chunks.holding(file);
                for (int b = from; b < from + 128; b++) {
                    x.poke(k, b);
                    Checks.due("byte " + k + " is " + b, x.read(),
                        b == (file[k] & 255) ? 0 : FRAME);
                }
            }
        }
        byte[] shifted = PackedData.joined(new byte[1], file);
        Checks.due("a byte before them", Chunks.read(shifted), FRAME);
        Checks.due("the first one missing",
            Chunks.read(Arrays.copyOfRange(file, 1, file.length)), FRAME);
    }

    private static void fewerThanEightBytes() {
        SevenPassImage x = new SevenPassImage();
        Checks.due("read of no bytes", x.read(), FRAME);
        for (byte b : Chunks.BEGINNING) {
            x.append(b & 255);
            Checks.due("read of " + x.length() + " bytes", x.read(), FRAME);
        }
    }

    /** "behind them lie whole chunks": a file cut behind every byte, and each chunk cut short. */
    private static void wholeChunks() {
        byte[] file = Chunks.file(HEAD, DATA, LAST);
        SevenPassImage x = Chunks.holding(file);
        for (int n = file.length - 1; n >= 0; n--) {
            Checks.due("trim", x.trim(n), true);
            Checks.due("read of " + n + " bytes", x.read(), FRAME);
        }
        for (int n = 1; n < OTHER.length; n++) {
            due("a cut other chunk", FRAME, HEAD, DATA, LAST, Arrays.copyOf(OTHER, n));
            due("a cut other chunk between", FRAME, HEAD, DATA, Arrays.copyOf(OTHER, n), LAST);
        }
        due("a whole other chunk between", 0, HEAD, DATA, OTHER, LAST);
    }

    /** "one behind the other up to its end": bytes behind LAST, and between the chunks. */
    private static void upToTheEnd() {
        for (int more = 1; more <= 13; more++) {
            due(more + " bytes behind LAST", FRAME, HEAD, DATA, LAST, new byte[more]);
            due(more + " bytes before HEAD", FRAME, new byte[more], HEAD, DATA, LAST);
            due(more + " bytes before DATA", FRAME, HEAD, new byte[more], DATA, LAST);
            due(more + " bytes before LAST", FRAME, HEAD, DATA, new byte[more], LAST);
        }
    }

    /** A number that says more bytes than there are, by one, by many, or beyond 2^31. */
    private static void numbersTooGreat() {
        int[][] numbers = {{255, 255, 255, 255}, {255, 255, 255, 244}, {255, 255, 255, 243},
            {128, 0, 0, 0}, {128, 0, 0, 13}, {127, 255, 255, 255}, {127, 255, 255, 200},
            {1, 0, 0, 13}, {0, 1, 0, 13}, {0, 0, 1, 13}, {0, 0, 0, 200}};
        byte[] file = Chunks.file(HEAD, DATA, LAST);
        for (int[] number : numbers) {
            for (int at : new int[] {8, 33, file.length - 12}) {
                SevenPassImage x = Chunks.holding(file);
                for (int i = 0; i < 4; i++) {
                    x.poke(at + i, number[i]);
                }
                Checks.due("a great number at " + at, x.read(), FRAME);
                Checks.due("seal", x.seal(at), false);
            }
        }
        SevenPassImage x = Chunks.holding(file);
        x.poke(file.length - 9, 1);
        Checks.due("a LAST that says one byte more than there is", x.read(), FRAME);
        Checks.due("seal", x.seal(file.length - 12), false);
        x.append(0);
        Checks.due("seal with that byte", x.seal(file.length - 12), true);
        Checks.due("a LAST with that byte", x.read(), SevenPassImage.HEADER);
    }

    /** "with right checks": one wrong check in each chunk, each bit of it. */
    private static void rightChecks() {
        byte[] file = Chunks.file(HEAD, DATA, OTHER, LAST);
        int[] ends = {33, 33 + DATA.length, 33 + DATA.length + OTHER.length, file.length};
        for (int end : ends) {
            for (int bit = 0; bit < 32; bit++) {
                SevenPassImage x = Chunks.holding(file);
                int k = end - 1 - bit / 8;
                x.poke(k, x.byteAt(k) ^ 1 << bit % 8);
                Checks.due("bit " + bit + " of the check that ends at " + end, x.read(), FRAME);
            }
        }
        due("all checks right", 0, HEAD, DATA, OTHER, LAST);
    }

    /** "of which the first is the only HEAD": HEAD stands first. */
    private static void firstIsHead() {
        due("no chunks", FRAME);
        due("no HEAD", FRAME, DATA, LAST);
        due("LAST alone", FRAME, LAST);
        due("an other before HEAD", FRAME, OTHER, HEAD, DATA, LAST);
        due("DATA before HEAD", FRAME, DATA, HEAD, LAST);
        due("an other instead of HEAD", FRAME, OTHER, DATA, LAST);
        due("HEAD first", 0, HEAD, DATA, LAST);
    }

    /** ".. the only HEAD". */
    private static void onlyOneHead() {
        due("two HEAD", FRAME, HEAD, HEAD, DATA, LAST);
        due("HEAD behind an other", FRAME, HEAD, OTHER, HEAD, DATA, LAST);
        due("HEAD behind DATA", FRAME, HEAD, DATA, HEAD, LAST);
        due("HEAD between DATA", FRAME, HEAD, DATA, HEAD, NO_DATA, LAST);
        due("HEAD at the end", FRAME, HEAD, DATA, HEAD);
        due("HEAD behind LAST", FRAME, HEAD, DATA, LAST, HEAD);
        due("an empty second HEAD", FRAME, HEAD, DATA, Chunks.chunk("IHDR"), LAST);
    }

    /** "the last the only LAST": LAST stands last. */
    private static void lastIsLast() {
        due("HEAD alone", FRAME, HEAD);
        due("no LAST", FRAME, HEAD, DATA);
        due("an other at the end", FRAME, HEAD, DATA, OTHER);
        due("an other behind LAST", FRAME, HEAD, DATA, LAST, OTHER);
        due("DATA behind LAST", FRAME, HEAD, LAST, DATA);
        due("DATA behind DATA and LAST", FRAME, HEAD, DATA, LAST, NO_DATA);
        due("LAST last", 0, HEAD, DATA, OTHER, LAST);
    }

    /** ".. the only LAST". */
    private static void onlyOneLast() {
        due("two LAST", FRAME, HEAD, DATA, LAST, LAST);
        due("LAST before DATA too", FRAME, HEAD, LAST, DATA, LAST);
        due("LAST between DATA", FRAME, HEAD, DATA, LAST, NO_DATA, LAST);
        due("LAST first", FRAME, LAST, HEAD, DATA, LAST);
        due("a LAST with bytes before the last", FRAME, HEAD, DATA, Chunks.chunk("IEND", 1), LAST);
    }

    /** "there is at least one DATA". */
    private static void atLeastOneData() {
        due("no DATA", FRAME, HEAD, LAST);
        due("no DATA but an other", FRAME, HEAD, OTHER, LAST);
        due("one DATA without bytes", SevenPassImage.STREAM, HEAD, NO_DATA, LAST);
        due("one DATA", 0, HEAD, DATA, LAST);
        due("three DATA", 0, HEAD, NO_DATA, DATA, NO_DATA, LAST);
    }

    /** "and the DATA stand next to each other". */
    private static void dataNextToEachOther() {
        byte[] first = Chunks.chunk("IDAT", Arrays.copyOf(PACKED, 6));
        byte[] second = Chunks.chunk("IDAT", Arrays.copyOfRange(PACKED, 6, PACKED.length));
        due("next to each other", 0, HEAD, first, second, LAST);
        due("others around them", 0, HEAD, OTHER, OTHER, first, second, OTHER, OTHER, LAST);
        due("an other between", FRAME, HEAD, first, OTHER, second, LAST);
        due("an other without bytes between", FRAME, HEAD, first, Chunks.chunk("oTHR"), second,
            LAST);
        due("an other before a DATA without bytes", FRAME, HEAD, DATA, OTHER, NO_DATA, LAST);
        due("an other behind a DATA without bytes", FRAME, HEAD, NO_DATA, OTHER, DATA, LAST);
        due("an other between the second and third", FRAME, HEAD, NO_DATA, DATA, OTHER, NO_DATA,
            LAST);
    }

    /** "every chunk of another type has a first type byte with the bit 32": every first byte. */
    private static void otherTypesHaveTheBit() {
        for (int b = 0; b < 256; b++) {
            byte[] other = Chunks.chunk((char) b + "THR", 1, 2);
            int want = b / 32 % 2 == 1 ? 0 : FRAME;
            due("first type byte " + b + " before DATA", want, HEAD, other, DATA, LAST);
            due("first type byte " + b + " behind DATA", want, HEAD, DATA, other, LAST);
        }
        // No other byte of the type is looked at.
        for (int b = 0; b < 256; b += 15) {
            for (int k = 1; k < 4; k++) {
                char[] type = {'o', 'T', 'H', 'R'};
                type[k] = (char) b;
                due("type byte " + k + " of " + b, 0, HEAD, Chunks.chunk(new String(type)), DATA,
                    LAST);
            }
        }
    }

    /** Types that differ from the three known ones in one byte are other types. */
    private static void nearlyTheKnownTypes() {
        for (String known : new String[] {"IHDR", "IDAT", "IEND"}) {
            for (int k = 0; k < 4; k++) {
                for (int bit = 0; bit < 8; bit++) {
                    char[] type = known.toCharArray();
                    type[k] ^= (char) (1 << bit);
                    int want = (type[0] & 32) != 0 ? 0 : FRAME;
                    due("nearly " + known, want, HEAD, DATA, Chunks.chunk(new String(type), 1),
                        LAST);
                }
            }
        }
    }

    /** "(those are passed over)": whatever bytes they have. */
    private static void othersArePassedOver() {
        due("bytes of a picture in an other chunk", 0, HEAD, Chunks.chunk("iDAT", PACKED),
            Chunks.chunk("iHDR", 0, 0, 0, 9), DATA, Chunks.chunk("iEND", 5), LAST);
        due("a chunk in an other chunk", 0, HEAD, Chunks.chunk("oTHR", LAST), DATA,
            Chunks.chunk("oTHR", HEAD), LAST);
        byte[][] many = new byte[15][];
        Arrays.fill(many, Chunks.chunk("xxxx"));
        due("fifteen others before and behind", 0, HEAD, PackedData.joined(many), DATA,
            PackedData.joined(many), LAST);
    }
}
