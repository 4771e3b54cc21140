import java.util.Arrays;

/**
 * Small pictures written as files of chunks and read again: rows of samples in one pass or in
 * seven, a filter before each row, the rows packed with copies and fixed codes, checksums over
 * all of it.
 *
 * All rows of numbers are made with the object and used again, so that no call makes any.
 */
public final class SevenPassImage {
    public static final int NONE = -1;
    public static final int FRAME = -2;
    public static final int HEADER = -3;
    public static final int STREAM = -4;
    public static final int ROWS = -5;

    private static final int FILE_LIMIT = 700;
    private static final int DATA_LIMIT = 300;
    private static final int SIDE_LIMIT = 8;
    private static final int SAMPLES_LIMIT = SIDE_LIMIT * SIDE_LIMIT * 4;
    private static final int ROW_LIMIT = SIDE_LIMIT * 4;

    private static final int FILTERS = 5;
    private static final int CHOOSE_FILTER = 5;

    // The eighth entry is the one pass of a picture that is not written in seven.
    private static final int[] PASS_X0 = {0, 4, 0, 2, 0, 1, 0, 0};
    private static final int[] PASS_Y0 = {0, 0, 4, 0, 2, 0, 1, 0};
    private static final int[] PASS_DX = {8, 8, 4, 4, 2, 2, 1, 1};
    private static final int[] PASS_DY = {8, 8, 8, 4, 4, 2, 2, 1};
    private static final int WHOLE_PASS = 7;

    private final ChunkFile file;
    private final Packing packing;
    private final RowCoder coder;
    private Picture picture;
    // A read fills this one, so that the picture stays whenever the file is refused.
    private Picture spare;
    private int copyCount;

    public SevenPassImage() {
        file = new ChunkFile();
        packing = new Packing();
        coder = new RowCoder();
        picture = new Picture();
        spare = new Picture();
        copyCount = 0;
    }

    public boolean begin(int kind, int depth, int w, int h) {
        if (!Picture.canBe(kind, depth, w, h)) {
            return false;
        }
        picture.clearTo(kind, depth, w, h);
        return true;
    }

    public int shape() {
        return 1000000 * picture.kind + 10000 * picture.depth + 100 * picture.w + picture.h;
    }

    public boolean set(int x, int y, int c, int v) {
        return picture.putSample(x, y, c, v);
    }

    public int get(int x, int y, int c) {
        return picture.sampleAt(x, y, c);
    }

    public int write(boolean seven, int filter) {
        if (filter < 0 || filter > CHOOSE_FILTER) {
            return NONE;
        }
        coder.encode(picture, seven, filter, packing.data);
        packing.pack();
        copyCount = packing.copyCount;
        file.build(picture, seven, packing.bits.bytes);
        return file.bytes.count;
    }

    public int read() {
        if (!file.gatherData(packing.bits.bytes)) {
            return FRAME;
        }
        if (!file.takeHead(spare)) {
            return HEADER;
        }
        if (!packing.unpack()) {
            return STREAM;
        }
        boolean seven = file.saysSeven();
        if (!RowCoder.fits(packing.data, spare, seven)) {
            return ROWS;
        }
        coder.decode(packing.data, spare, seven);
        copyCount = packing.copyCount;
        swapPictures();
        return 0;
    }

    private void swapPictures() {
        Picture former = picture;
        picture = spare;
        spare = former;
    }

    public int length() {
        return file.bytes.count;
    }

    public int byteAt(int k) {
        return file.bytes.at(k);
    }

    public boolean poke(int k, int b) {
        return isByte(b) && file.bytes.change(k, b);
    }

    public boolean append(int b) {
        return isByte(b) && file.bytes.add(b);
    }

    private static boolean isByte(int b) {
        return b >= 0 && b <= 255;
    }

    public boolean trim(int n) {
        return file.bytes.cut(n);
    }

    public boolean seal(int k) {
        return file.putCheck(k);
    }

    public int rows(int filter) {
        return filter >= 0 && filter < FILTERS ? coder.rowCounts[filter] : NONE;
    }

    public int copies() {
        return copyCount;
    }

    /** A row of bytes 0 .. 255 that is changed at will but never grows beyond its limit. */
    private static final class Bytes {
        // 3988292384 as the 32 bits of an int.
        private static final int CHECK_BITS = 0xEDB88320;
        private static final int SUM_MODULUS = 65521;

        private final int[] room;
        private int count;

        private Bytes(int limit) {
            room = new int[limit];
            count = 0;
        }

        private int at(int k) {
            return k >= 0 && k < count ? room[k] : NONE;
        }

        private boolean add(int b) {
            if (count >= room.length) {
                return false;
            }
            room[count] = b;
            count++;
            return true;
        }

        private boolean change(int k, int b) {
            if (k < 0 || k >= count) {
                return false;
            }
            room[k] = b;
            return true;
        }

        private boolean cut(int n) {
            if (n < 0 || n > count) {
                return false;
            }
            count = n;
            return true;
        }

        private void clear() {
            count = 0;
        }

        /** The four bytes from k on as a number; one from 2^31 on comes out negative. */
        private int numberAt(int k) {
            int number = 0;
            for (int i = 0; i < 4; i++) {
                number = (number << 8) | (at(k + i) & 255);
            }
            return number;
        }

        private void addNumber(int number) {
            for (int shift = 24; shift >= 0; shift -= 8) {
                add((number >>> shift) & 255);
            }
        }

        private void changeNumber(int k, int number) {
            for (int i = 0; i < 4; i++) {
                change(k + i, (number >>> (24 - 8 * i)) & 255);
            }
        }

        private void addAll(Bytes others, int from, int to) {
            for (int k = from; k < to; k++) {
                add(others.at(k));
            }
        }

        private int checkOf(int from, int to) {
            int check = -1;
            for (int k = from; k < to; k++) {
                check ^= at(k) & 255;
                for (int i = 0; i < 8; i++) {
                    check = (check & 1) == 1 ? (check >>> 1) ^ CHECK_BITS : check >>> 1;
                }
            }
            return ~check;
        }

        private int sum() {
            int a = 1;
            int b = 0;
            for (int k = 0; k < count; k++) {
                a = (a + room[k]) % SUM_MODULUS;
                b = (b + a) % SUM_MODULUS;
            }
            return (b << 16) | a;
        }
    }

    /** The samples of a picture, and how its points fall into passes and rows. */
    private static final class Picture {
        private final int[] samples;
        private int kind;
        private int depth;
        private int w;
        private int h;

        private Picture() {
            samples = new int[SAMPLES_LIMIT];
            kind = 0;
            depth = 1;
            w = 1;
            h = 1;
        }

        private static boolean canBe(int kind, int depth, int w, int h) {
            return depthFits(kind, depth)
                && w >= 1 && w <= SIDE_LIMIT && h >= 1 && h <= SIDE_LIMIT;
        }

        private static boolean depthFits(int kind, int depth) {
            switch (kind) {
                case 0:
                    return depth == 1 || depth == 2 || depth == 4 || depth == 8;
                case 2:
                case 4:
                case 6:
                    return depth == 8;
                default:
                    return false;
            }
        }

        private void clearTo(int newKind, int newDepth, int newW, int newH) {
            kind = newKind;
            depth = newDepth;
            w = newW;
            h = newH;
            Arrays.fill(samples, 0);
        }

        private int samplesAPoint() {
            switch (kind) {
                case 2:
                    return 3;
                case 4:
                    return 2;
                case 6:
                    return 4;
                default:
                    return 1;
            }
        }

        private int placeOf(int x, int y, int c) {
            int perPoint = samplesAPoint();
            if (x < 0 || x >= w || y < 0 || y >= h || c < 0 || c >= perPoint) {
                return NONE;
            }
            return (y * w + x) * perPoint + c;
        }

        private int sampleAt(int x, int y, int c) {
            int place = placeOf(x, y, c);
            return place == NONE ? NONE : samples[place];
        }

        private boolean putSample(int x, int y, int c, int v) {
            int place = placeOf(x, y, c);
            if (place == NONE || v < 0 || v >= 1 << depth) {
                return false;
            }
            samples[place] = v;
            return true;
        }

        private static int firstPass(boolean seven) {
            return seven ? 0 : WHOLE_PASS;
        }

        private static int lastPass(boolean seven) {
            return seven ? WHOLE_PASS - 1 : WHOLE_PASS;
        }

        // Each first column and row is below its step, so neither quotient is ever negative.
        private int pointsInRow(int pass) {
            return (w - PASS_X0[pass] + PASS_DX[pass] - 1) / PASS_DX[pass];
        }

        private int rowsInPass(int pass) {
            if (pointsInRow(pass) == 0) {
                return 0;
            }
            return (h - PASS_Y0[pass] + PASS_DY[pass] - 1) / PASS_DY[pass];
        }

        private int rowSize(int pass) {
            return (pointsInRow(pass) * samplesAPoint() * depth + 7) / 8;
        }

        private int unit() {
            return Math.max(1, samplesAPoint() * depth / 8);
        }
    }

    /** A row's bytes as they are before filtering, with those of the row above it. */
    private static final class Row {
        private final int[] bytes;
        private final int[] above;
        private int size;
        private int unit;

        private Row() {
            bytes = new int[ROW_LIMIT];
            above = new int[ROW_LIMIT];
            size = 0;
            unit = 1;
        }

        private void startPass(Picture picture, int pass) {
            size = picture.rowSize(pass);
            unit = picture.unit();
            Arrays.fill(above, 0);
        }

        private void endRow() {
            System.arraycopy(bytes, 0, above, 0, ROW_LIMIT);
        }

        private void load(Picture picture, int pass, int number) {
            Arrays.fill(bytes, 0);
            int points = picture.pointsInRow(pass);
            int perPoint = picture.samplesAPoint();
            int y = PASS_Y0[pass] + number * PASS_DY[pass];
            int bit = 0;
            for (int i = 0; i < points; i++) {
                int x = PASS_X0[pass] + i * PASS_DX[pass];
                for (int c = 0; c < perPoint; c++) {
                    bytes[bit / 8] |= picture.sampleAt(x, y, c) << (8 - picture.depth - bit % 8);
                    bit += picture.depth;
                }
            }
        }

        private void store(Picture picture, int pass, int number) {
            int points = picture.pointsInRow(pass);
            int perPoint = picture.samplesAPoint();
            int y = PASS_Y0[pass] + number * PASS_DY[pass];
            int mask = (1 << picture.depth) - 1;
            int bit = 0;
            for (int i = 0; i < points; i++) {
                int x = PASS_X0[pass] + i * PASS_DX[pass];
                for (int c = 0; c < perPoint; c++) {
                    int v = bytes[bit / 8] >> (8 - picture.depth - bit % 8);
                    picture.putSample(x, y, c, v & mask);
                    bit += picture.depth;
                }
            }
        }

        /** The number p that the filter takes from byte k. */
        private int guess(int filter, int k) {
            int a = k < unit ? 0 : bytes[k - unit];
            int b = above[k];
            int c = k < unit ? 0 : above[k - unit];
            switch (filter) {
                case 1:
                    return a;
                case 2:
                    return b;
                case 3:
                    return (a + b) / 2;
                case 4:
                    return nearest(a, b, c);
                default:
                    return 0;
            }
        }

        private static int nearest(int a, int b, int c) {
            int aim = a + b - c;
            int farA = Math.abs(aim - a);
            int farB = Math.abs(aim - b);
            int farC = Math.abs(aim - c);
            if (farA <= farB && farA <= farC) {
                return a;
            }
            return farB <= farC ? b : c;
        }

        private int filtered(int filter, int k) {
            return (bytes[k] - guess(filter, k)) & 255;
        }

        private int bestFilter() {
            int best = 0;
            // More than any sum, so that filter 0 is the best until another one is better.
            int least = 256 * ROW_LIMIT;
            for (int filter = 0; filter < FILTERS; filter++) {
                int sum = 0;
                for (int k = 0; k < size; k++) {
                    int v = filtered(filter, k);
                    sum += Math.min(v, 256 - v);
                }
                if (sum < least) {
                    least = sum;
                    best = filter;
                }
            }
            return best;
        }

        private void addFiltered(int filter, Bytes data) {
            data.add(filter);
            for (int k = 0; k < size; k++) {
                data.add(filtered(filter, k));
            }
        }

        private void takeFiltered(int filter, Bytes data, int from) {
            for (int k = 0; k < size; k++) {
                bytes[k] = (data.at(from + k) + guess(filter, k)) & 255;
            }
        }
    }

    /** Turns a picture into its data and back, and counts the rows of each filter. */
    private static final class RowCoder {
        private final int[] rowCounts;
        private final Row row;

        private RowCoder() {
            rowCounts = new int[FILTERS];
            row = new Row();
        }

        private void encode(Picture picture, boolean seven, int filter, Bytes data) {
            Arrays.fill(rowCounts, 0);
            data.clear();
            int last = Picture.lastPass(seven);
            for (int pass = Picture.firstPass(seven); pass <= last; pass++) {
                int rowsHere = picture.rowsInPass(pass);
                row.startPass(picture, pass);
                for (int number = 0; number < rowsHere; number++) {
                    row.load(picture, pass, number);
                    int used = filter == CHOOSE_FILTER ? row.bestFilter() : filter;
                    row.addFiltered(used, data);
                    rowCounts[used]++;
                    row.endRow();
                }
            }
        }

        /** Whether the data are just as many as the rows take, each row with a filter's number. */
        private static boolean fits(Bytes data, Picture picture, boolean seven) {
            int k = 0;
            int last = Picture.lastPass(seven);
            for (int pass = Picture.firstPass(seven); pass <= last; pass++) {
                int rowsHere = picture.rowsInPass(pass);
                int step = 1 + picture.rowSize(pass);
                for (int number = 0; number < rowsHere; number++) {
                    if (data.at(k) < 0 || data.at(k) >= FILTERS) {
                        return false;
                    }
                    k += step;
                }
            }
            return k == data.count;
        }

        /** Fills the picture from data that fit it. */
        private void decode(Bytes data, Picture picture, boolean seven) {
            Arrays.fill(rowCounts, 0);
            int k = 0;
            int last = Picture.lastPass(seven);
            for (int pass = Picture.firstPass(seven); pass <= last; pass++) {
                int rowsHere = picture.rowsInPass(pass);
                row.startPass(picture, pass);
                for (int number = 0; number < rowsHere; number++) {
                    int filter = data.at(k);
                    if (filter >= 0 && filter < FILTERS) {
                        rowCounts[filter]++;
                    }
                    row.takeFiltered(filter, data, k + 1);
                    row.store(picture, pass, number);
                    row.endRow();
                    k += 1 + row.size;
                }
            }
        }
    }

    /** The lengths that the codes from 257 on begin with, and the distances of the numbers t. */
    private static final class Codes {
        private static final int END = 256;
        private static final int FIRST_LENGTH = 257;
        private static final int LAST_LENGTH = 285;
        private static final int LAST_DISTANCE = 29;
        private static final int LONGEST = 258;
        private static final int SHORTEST = 3;

        private static int lengthBits(int code) {
            return code < 265 || code == LAST_LENGTH ? 0 : (code - 261) / 4;
        }

        private static int leastLength(int code) {
            if (code < 265) {
                return code - 254;
            }
            if (code == LAST_LENGTH) {
                return LONGEST;
            }
            return 3 + ((4 + (code - 261) % 4) << lengthBits(code));
        }

        private static int codeOfLength(int length) {
            // 284 has this length too, with all of its bits 1, but is not the one to write.
            if (length == LONGEST) {
                return LAST_LENGTH;
            }
            int code = FIRST_LENGTH;
            while (code < LAST_LENGTH - 1 && leastLength(code + 1) <= length) {
                code++;
            }
            return code;
        }

        private static int distanceBits(int t) {
            return t < 4 ? 0 : t / 2 - 1;
        }

        private static int leastDistance(int t) {
            return t < 4 ? t + 1 : 1 + ((2 + t % 2) << distanceBits(t));
        }

        private static int numberOfDistance(int distance) {
            int t = 0;
            while (t < LAST_DISTANCE && leastDistance(t + 1) <= distance) {
                t++;
            }
            return t;
        }
    }

    /** Bytes put and taken bit by bit, each byte's lowest bit first. */
    private static final class Bits {
        private final Bytes bytes;
        private int place;
        // Bits behind the last byte are taken as 0 and leave this mark.
        private boolean overrun;

        private Bits() {
            bytes = new Bytes(FILE_LIMIT);
            place = 0;
            overrun = false;
        }

        private void startAtByte(int k) {
            place = 8 * k;
            overrun = false;
        }

        private void put(int bit) {
            if (place % 8 == 0) {
                bytes.add(0);
            }
            int k = place / 8;
            bytes.change(k, bytes.at(k) | (bit << (place % 8)));
            place++;
        }

        private void putLowestFirst(int number, int size) {
            for (int i = 0; i < size; i++) {
                put((number >> i) & 1);
            }
        }

        private void putHighestFirst(int number, int size) {
            for (int i = size - 1; i >= 0; i--) {
                put((number >> i) & 1);
            }
        }

        private int take() {
            int k = place / 8;
            if (k >= bytes.count) {
                overrun = true;
                return 0;
            }
            int bit = (bytes.room[k] >> (place % 8)) & 1;
            place++;
            return bit;
        }

        private int takeLowestFirst(int size) {
            int number = 0;
            for (int i = 0; i < size; i++) {
                number |= take() << i;
            }
            return number;
        }

        private int takeHighestFirst(int size) {
            int number = 0;
            for (int i = 0; i < size; i++) {
                number = (number << 1) | take();
            }
            return number;
        }

        private void passOverByte() {
            place = (place + 7) / 8 * 8;
        }
    }

    /** The data and the packed data, each made from the other. */
    private static final class Packing {
        private final Bytes data;
        private final Bits bits;
        private int copyCount;
        private boolean refused;
        private int copyLength;
        private int copyDistance;

        private Packing() {
            data = new Bytes(DATA_LIMIT);
            bits = new Bits();
            copyCount = 0;
            refused = false;
            copyLength = 0;
            copyDistance = 0;
        }

        private void pack() {
            copyCount = 0;
            bits.bytes.clear();
            bits.bytes.add(120);
            bits.bytes.add(1);
            bits.startAtByte(2);
            bits.put(1);
            bits.putLowestFirst(1, 2);
            int place = 0;
            while (place < data.count) {
                findCopy(place);
                if (copyLength >= Codes.SHORTEST) {
                    putCopy();
                    place += copyLength;
                } else {
                    putCode(data.at(place));
                    place++;
                }
            }
            putCode(Codes.END);
            bits.bytes.addNumber(data.sum());
        }

        /** Finds the longest copy that gives the next bytes; of several as long, the nearest. */
        private void findCopy(int place) {
            int most = Math.min(Codes.LONGEST, data.count - place);
            copyLength = 0;
            copyDistance = 0;
            for (int distance = 1; distance <= place && copyLength < most; distance++) {
                int same = 0;
                while (same < most && data.at(place + same) == data.at(place + same - distance)) {
                    same++;
                }
                if (same > copyLength) {
                    copyLength = same;
                    copyDistance = distance;
                }
            }
        }

        private void putCopy() {
            int code = Codes.codeOfLength(copyLength);
            putCode(code);
            bits.putLowestFirst(copyLength - Codes.leastLength(code), Codes.lengthBits(code));
            int t = Codes.numberOfDistance(copyDistance);
            bits.putHighestFirst(t, 5);
            bits.putLowestFirst(copyDistance - Codes.leastDistance(t), Codes.distanceBits(t));
            copyCount++;
        }

        private void putCode(int code) {
            if (code < 144) {
                bits.putHighestFirst(48 + code, 8);
            } else if (code < 256) {
                bits.putHighestFirst(256 + code, 9);
            } else if (code < 280) {
                bits.putHighestFirst(code - 256, 7);
            } else {
                bits.putHighestFirst(code - 88, 8);
            }
        }

        /** Makes the data anew; false when the packed data are not as they must be. */
        private boolean unpack() {
            data.clear();
            copyCount = 0;
            refused = false;
            if (!startIsRight()) {
                return false;
            }
            bits.startAtByte(2);
            boolean last = false;
            // A block takes three bits at least, so there are never as many as bits.
            int bound = 8 * bits.bytes.count;
            for (int block = 0; block < bound && !last && goesOn(); block++) {
                last = bits.take() == 1;
                takeBlock();
            }
            bits.passOverByte();
            return last && goesOn() && endIsRight();
        }

        private boolean goesOn() {
            return !refused && !bits.overrun;
        }

        private boolean startIsRight() {
            if (bits.bytes.count < 2) {
                return false;
            }
            int p = bits.bytes.at(0);
            int q = bits.bytes.at(1);
            return p % 16 == 8 && p < 128 && (256 * p + q) % 31 == 0 && (q & 32) == 0;
        }

        private boolean endIsRight() {
            int k = bits.place / 8;
            return k + 4 == bits.bytes.count && bits.bytes.numberAt(k) == data.sum();
        }

        private void takeBlock() {
            int form = bits.takeLowestFirst(2);
            if (form == 0) {
                takePlainBytes();
            } else if (form == 1) {
                takeCodes();
            } else {
                refused = true;
            }
        }

        private void takePlainBytes() {
            bits.passOverByte();
            int n = bits.takeLowestFirst(16);
            int turned = bits.takeLowestFirst(16);
            if (turned != 65535 - n) {
                refused = true;
            }
            for (int i = 0; i < n && goesOn(); i++) {
                addToData(bits.takeLowestFirst(8));
            }
        }

        private void addToData(int b) {
            if (!data.add(b)) {
                refused = true;
            }
        }

        private void takeCodes() {
            // A code takes seven bits at least, so there are never as many as bits.
            int bound = 8 * bits.bytes.count;
            for (int i = 0; i < bound && goesOn(); i++) {
                int code = takeCode();
                if (code == Codes.END) {
                    return;
                }
                if (code < Codes.END) {
                    addToData(code);
                } else {
                    takeCopy(code);
                }
            }
        }

        private int takeCode() {
            int word = bits.takeHighestFirst(7);
            if (word < 24) {
                return 256 + word;
            }
            word = (word << 1) | bits.take();
            if (word < 192) {
                return word - 48;
            }
            if (word < 200) {
                return word + 88;
            }
            word = (word << 1) | bits.take();
            return word - 256;
        }

        private void takeCopy(int code) {
            if (code > Codes.LAST_LENGTH) {
                refused = true;
                return;
            }
            copyLength = Codes.leastLength(code) + bits.takeLowestFirst(Codes.lengthBits(code));
            int t = bits.takeHighestFirst(5);
            if (t > Codes.LAST_DISTANCE) {
                refused = true;
                return;
            }
            copyDistance = Codes.leastDistance(t) + bits.takeLowestFirst(Codes.distanceBits(t));
            if (copyDistance > data.count) {
                refused = true;
                return;
            }
            for (int i = 0; i < copyLength; i++) {
                addToData(data.at(data.count - copyDistance));
            }
            copyCount++;
        }
    }

    /** The file and its chunks. */
    private static final class ChunkFile {
        private static final int[] BEGINNING = {137, 80, 78, 71, 13, 10, 26, 10};
        private static final int HEAD = (73 << 24) | (72 << 16) | (68 << 8) | 82;
        private static final int DATA = (73 << 24) | (68 << 16) | (65 << 8) | 84;
        private static final int LAST = (73 << 24) | (69 << 16) | (78 << 8) | 68;
        private static final int TYPE_AT = 4;
        private static final int CONTENT_AT = 8;
        private static final int CHECK_SIZE = 4;
        // What a chunk has beside its content: the number, the type and the check.
        private static final int FRAME_SIZE = 12;
        private static final int HEAD_SIZE = 13;
        private static final int HEAD_CONTENT = 16;
        private static final int WAY_AT = HEAD_CONTENT + 12;

        private final Bytes bytes;
        private int lastStart;

        private ChunkFile() {
            bytes = new Bytes(FILE_LIMIT);
            lastStart = 0;
        }

        private void build(Picture picture, boolean seven, Bytes packed) {
            bytes.clear();
            for (int b : BEGINNING) {
                bytes.add(b);
            }
            int head = startChunk(HEAD, HEAD_SIZE);
            bytes.addNumber(picture.w);
            bytes.addNumber(picture.h);
            bytes.add(picture.depth);
            bytes.add(picture.kind);
            bytes.add(0);
            bytes.add(0);
            bytes.add(seven ? 1 : 0);
            endChunk(head);
            int data = startChunk(DATA, packed.count);
            bytes.addAll(packed, 0, packed.count);
            endChunk(data);
            endChunk(startChunk(LAST, 0));
        }

        private int startChunk(int type, int size) {
            int start = bytes.count;
            bytes.addNumber(size);
            bytes.addNumber(type);
            return start;
        }

        private void endChunk(int start) {
            bytes.addNumber(bytes.checkOf(start + TYPE_AT, bytes.count));
        }

        /** Where the chunk from byte k on would end; NONE when the file is too short for it. */
        private int chunkEnd(int k) {
            if (k < 0 || k > bytes.count - FRAME_SIZE) {
                return NONE;
            }
            int n = bytes.numberAt(k);
            // One from 2^31 on, negative here, is as much too great as any other.
            if (n < 0 || n > bytes.count - FRAME_SIZE - k) {
                return NONE;
            }
            return k + FRAME_SIZE + n;
        }

        private boolean putCheck(int k) {
            int end = chunkEnd(k);
            if (end == NONE) {
                return false;
            }
            int checkAt = end - CHECK_SIZE;
            bytes.changeNumber(checkAt, bytes.checkOf(k + TYPE_AT, checkAt));
            return true;
        }

        /** Puts the bytes of all DATA into packed; false when the file is not well framed. */
        private boolean gatherData(Bytes packed) {
            packed.clear();
            if (!beginsRight()) {
                return false;
            }
            int k = BEGINNING.length;
            int dataEnd = NONE;
            // A chunk takes twelve bytes at least, so there are never as many as bytes.
            for (int number = 0; number < FILE_LIMIT && k < bytes.count; number++) {
                int end = chunkEnd(k);
                if (end == NONE || !checkIsRight(k, end) || !mayStand(k, end)) {
                    return false;
                }
                if (bytes.numberAt(k + TYPE_AT) == DATA) {
                    if (dataEnd != NONE && dataEnd != k) {
                        return false;
                    }
                    packed.addAll(bytes, k + CONTENT_AT, end - CHECK_SIZE);
                    dataEnd = end;
                }
                lastStart = k;
                k = end;
            }
            return dataEnd != NONE;
        }

        private boolean beginsRight() {
            for (int k = 0; k < BEGINNING.length; k++) {
                if (bytes.at(k) != BEGINNING[k]) {
                    return false;
                }
            }
            return true;
        }

        private boolean checkIsRight(int k, int end) {
            int checkAt = end - CHECK_SIZE;
            return bytes.numberAt(checkAt) == bytes.checkOf(k + TYPE_AT, checkAt);
        }

        /** Whether a chunk of this type may lie from k up to the end. */
        private boolean mayStand(int k, int end) {
            int type = bytes.numberAt(k + TYPE_AT);
            boolean isFirst = k == BEGINNING.length;
            boolean isLast = end == bytes.count;
            if (isFirst || type == HEAD) {
                return isFirst && type == HEAD && !isLast;
            }
            if (isLast || type == LAST) {
                return isLast && type == LAST;
            }
            return type == DATA || (bytes.at(k + TYPE_AT) & 32) != 0;
        }

        /** Gives the picture the shape that HEAD says; false when HEAD or LAST is wrong. */
        private boolean takeHead(Picture picture) {
            if (bytes.numberAt(BEGINNING.length) != HEAD_SIZE
                || bytes.numberAt(lastStart) != 0) {
                return false;
            }
            int w = bytes.numberAt(HEAD_CONTENT);
            int h = bytes.numberAt(HEAD_CONTENT + 4);
            int depth = bytes.at(HEAD_CONTENT + 8);
            int kind = bytes.at(HEAD_CONTENT + 9);
            int way = bytes.at(WAY_AT);
            if (!Picture.canBe(kind, depth, w, h)
                || bytes.at(HEAD_CONTENT + 10) != 0
                || bytes.at(HEAD_CONTENT + 11) != 0
                || way > 1) {
                return false;
            }
            picture.clearTo(kind, depth, w, h);
            return true;
        }

        private boolean saysSeven() {
            return bytes.at(WAY_AT) == 1;
        }
    }
}
