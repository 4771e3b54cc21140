import java.io.ByteArrayOutputStream;
import java.util.Arrays;
import java.util.HashMap;
import java.util.Map;
import java.util.zip.CRC32;

/**
 * The document told a second time, without care for speed or room: texts of bits, tables instead
 * of formulas, and the library's checksums. The class is compared with it.
 */
final class Model {
    static final int[][] PASSES = {
        {0, 0, 8, 8}, {4, 0, 8, 8}, {0, 4, 4, 8}, {2, 0, 4, 4}, {0, 2, 2, 4}, {1, 0, 2, 2},
        {0, 1, 1, 2}};
    static final int[][] WHOLE = {{0, 0, 1, 1}};
    private static final int[] LENGTHS = {3, 4, 5, 6, 7, 8, 9, 10, 11, 13, 15, 17, 19, 23, 27, 31,
        35, 43, 51, 59, 67, 83, 99, 115, 131, 163, 195, 227, 258};
    private static final int[] LENGTH_BITS = {0, 0, 0, 0, 0, 0, 0, 0, 1, 1, 1, 1, 2, 2, 2, 2, 3, 3,
        3, 3, 4, 4, 4, 4, 5, 5, 5, 5, 0};
    private static final int[] DISTANCES = {1, 2, 3, 4, 5, 7, 9, 13, 17, 25, 33, 49, 65, 97, 129,
        193, 257, 385, 513, 769, 1025, 1537, 2049, 3073, 4097, 6145, 8193, 12289, 16385, 24577};
    private static final int[] DISTANCE_BITS = {0, 0, 0, 0, 1, 1, 2, 2, 3, 3, 4, 4, 5, 5, 6, 6, 7,
        7, 8, 8, 9, 9, 10, 10, 11, 11, 12, 12, 13, 13};
    private static final Map<String, Integer> WORDS = new HashMap<>();

    static {
        for (int code = 0; code < 288; code++) {
            WORDS.put(wordOf(code), code);
        }
    }

    private int kind = 0;
    private int depth = 1;
    private int w = 1;
    private int h = 1;
    private int[][][] samples = new int[1][1][1];
    private byte[] file = new byte[0];
    private int[] rows = new int[5];
    private int copies = 0;

    boolean begin(int newKind, int newDepth, int newW, int newH) {
        if (perPoint(newKind) == 0 || Integer.bitCount(newDepth) != 1 || newDepth < 1
            || newDepth > 8 || newKind != 0 && newDepth != 8
            || newW < 1 || newW > 8 || newH < 1 || newH > 8) {
            return false;
        }
        kind = newKind;
        depth = newDepth;
        w = newW;
        h = newH;
        samples = new int[w][h][perPoint(kind)];
        return true;
    }

    private static int perPoint(int kind) {
        return kind == 0 ? 1 : kind == 2 ? 3 : kind == 4 ? 2 : kind == 6 ? 4 : 0;
    }

    int shape() {
        return ((kind * 100 + depth) * 100 + w) * 100 + h;
    }

    private boolean has(int x, int y, int c) {
        return 0 <= x && x < w && 0 <= y && y < h && 0 <= c && c < perPoint(kind);
    }

    boolean set(int x, int y, int c, int v) {
        boolean fits = has(x, y, c) && 0 <= v && v < Math.pow(2, depth);
        if (fits) {
            samples[x][y][c] = v;
        }
        return fits;
    }

    int get(int x, int y, int c) {
        return has(x, y, c) ? samples[x][y][c] : -1;
    }

    int length() {
        return file.length;
    }

    int byteAt(int k) {
        return 0 <= k && k < file.length ? file[k] & 255 : -1;
    }

    boolean poke(int k, int b) {
        boolean fits = 0 <= k && k < file.length && 0 <= b && b < 256;
        if (fits) {
            file[k] = (byte) b;
        }
        return fits;
    }

    boolean append(int b) {
        boolean fits = file.length < 700 && 0 <= b && b < 256;
        if (fits) {
            file = PackedData.joined(file, new byte[] {(byte) b});
        }
        return fits;
    }

    boolean trim(int n) {
        boolean fits = 0 <= n && n <= file.length;
        if (fits) {
            file = Arrays.copyOf(file, n);
        }
        return fits;
    }

    private long number(int k) {
        long n = 0;
        for (int i = 0; i < 4; i++) {
            n = 256 * n + (file[k + i] & 255);
        }
        return n;
    }

    private boolean holdsChunk(int k) {
        return k >= 0 && k + 12L <= file.length && k + 12L + number(k) <= file.length;
    }

    private long check(int k) {
        CRC32 check = new CRC32();
        check.update(file, k + 4, (int) number(k) + 4);
        return check.getValue();
    }

    boolean seal(int k) {
        boolean fits = holdsChunk(k);
        if (fits) {
            byte[] check = PackedData.number(check(k));
            System.arraycopy(check, 0, file, k + 8 + (int) number(k), 4);
        }
        return fits;
    }

    int rows(int filter) {
        return 0 <= filter && filter < 5 ? rows[filter] : -1;
    }

    int copies() {
        return copies;
    }

    private static String bitsOf(long number, int size) {
        StringBuilder bits = new StringBuilder();
        for (int i = size - 1; i >= 0; i--) {
            bits.append(number >> i & 1);
        }
        return bits.toString();
    }

    private static String turned(String text) {
        return new StringBuilder(text).reverse().toString();
    }

    private static String wordOf(int code) {
        return code < 144 ? bitsOf(48 + code, 8) : code < 256 ? bitsOf(256 + code, 9)
            : code < 280 ? bitsOf(code - 256, 7) : bitsOf(code - 88, 8);
    }

    /** The bytes of row y of a pass, or null where the picture has no such row. */
    private byte[] rowBytes(int[] pass, int y) {
        if (y < 0 || y >= h) {
            return null;
        }
        StringBuilder bits = new StringBuilder();
        for (int x = pass[0]; x < w; x += pass[2]) {
            for (int sample : samples[x][y]) {
                bits.append(bitsOf(sample, depth));
            }
        }
        while (bits.length() % 8 != 0) {
            bits.append('0');
        }
        byte[] bytes = new byte[bits.length() / 8];
        for (int k = 0; k < bytes.length; k++) {
            bytes[k] = (byte) Integer.parseInt(bits.substring(8 * k, 8 * k + 8), 2);
        }
        return bytes;
    }

    private static int guess(int filter, byte[] row, byte[] above, int k, int unit) {
        int a = k < unit ? 0 : row[k - unit] & 255;
        int b = above == null ? 0 : above[k] & 255;
        int c = above == null || k < unit ? 0 : above[k - unit] & 255;
        int paeth = a;
        for (int one : new int[] {b, c}) {
            if (Math.abs(a + b - c - one) < Math.abs(a + b - c - paeth)) {
                paeth = one;
            }
        }
        return new int[] {0, a, b, (a + b) / 2, paeth}[filter];
    }

    private int unit() {
        return Math.max(1, perPoint(kind) * depth / 8);
    }

    private byte[] filtered(int filter, byte[] row, byte[] above) {
        byte[] out = new byte[row.length];
        for (int k = 0; k < row.length; k++) {
            out[k] = (byte) (row[k] - guess(filter, row, above, k, unit()));
        }
        return out;
    }

    private int best(byte[] row, byte[] above) {
        int best = 0;
        int[] sums = new int[5];
        for (int filter = 0; filter < 5; filter++) {
            for (byte b : filtered(filter, row, above)) {
                sums[filter] += Math.abs((int) b);
            }
            best = sums[filter] < sums[best] ? filter : best;
        }
        return best;
    }

    private byte[] data(boolean seven, int filter) {
        ByteArrayOutputStream out = new ByteArrayOutputStream();
        rows = new int[5];
        for (int[] pass : seven ? PASSES : WHOLE) {
            if (pass[0] >= w) {
                continue;
            }
            for (int y = pass[1]; y < h; y += pass[3]) {
                byte[] row = rowBytes(pass, y);
                byte[] above = y == pass[1] ? null : rowBytes(pass, y - pass[3]);
                int used = filter == 5 ? best(row, above) : filter;
                rows[used]++;
                out.write(used);
                out.writeBytes(filtered(used, row, above));
            }
        }
        return out.toByteArray();
    }

    private static int sameBytes(byte[] data, int place, int distance) {
        int same = 0;
        while (same < 258 && place + same < data.length
            && data[place + same] == data[place + same - distance]) {
            same++;
        }
        return same;
    }

    /** The last entry of the table that is not above the number. */
    private static int entry(int[] table, int number) {
        int k = 0;
        while (k + 1 < table.length && table[k + 1] <= number) {
            k++;
        }
        return k;
    }

    private byte[] packed(byte[] data) {
        StringBuilder bits = new StringBuilder("110");
        copies = 0;
        int place = 0;
        while (place < data.length) {
            int length = 0;
            int distance = 0;
            for (int d = place; d >= 1; d--) {
                if (sameBytes(data, place, d) >= length) {
                    length = sameBytes(data, place, d);
                    distance = d;
                }
            }
            if (length < 3) {
                bits.append(wordOf(data[place] & 255));
                place++;
                continue;
            }
            int l = entry(LENGTHS, length);
            int t = entry(DISTANCES, distance);
            bits.append(wordOf(257 + l)).append(turned(bitsOf(length - LENGTHS[l],
                LENGTH_BITS[l])));
            bits.append(bitsOf(t, 5)).append(turned(bitsOf(distance - DISTANCES[t],
                DISTANCE_BITS[t])));
            copies++;
            place += length;
        }
        bits.append(wordOf(256));
        while (bits.length() % 8 != 0) {
            bits.append('0');
        }
        ByteArrayOutputStream out = new ByteArrayOutputStream();
        out.writeBytes(Chunks.bytes(120, 1));
        for (int k = 0; k < bits.length(); k += 8) {
            out.write(Integer.parseInt(turned(bits.substring(k, k + 8)), 2));
        }
        out.writeBytes(PackedData.number(PackedData.sumOf(data)));
        return out.toByteArray();
    }

    int write(boolean seven, int filter) {
        if (filter < 0 || filter > 5) {
            return -1;
        }
        file = Chunks.whole(Chunks.head(kind, depth, w, h, seven), packed(data(seven, filter)));
        return file.length;
    }

    /** The chunks as texts: four letters of type, then the bytes; null when not well framed. */
    private String[] chunks() {
        if (file.length < 8 || !Arrays.equals(Arrays.copyOf(file, 8), Chunks.BEGINNING)) {
            return null;
        }
        StringBuilder types = new StringBuilder();
        String[] found = new String[60];
        int many = 0;
        int k = 8;
        while (k < file.length) {
            if (!holdsChunk(k) || check(k) != number(k + 8 + (int) number(k))) {
                return null;
            }
            StringBuilder text = new StringBuilder();
            for (int i = k + 4; i < k + 8 + number(k); i++) {
                text.append((char) (file[i] & 255));
            }
            String type = text.substring(0, 4);
            types.append(type.equals("IHDR") ? 'H' : type.equals("IDAT") ? 'D'
                : type.equals("IEND") ? 'L' : (type.charAt(0) & 32) != 0 ? 'x' : '?');
            found[many] = text.toString();
            many++;
            k += 12 + (int) number(k);
        }
        return types.toString().matches("Hx*D+x*L") ? Arrays.copyOf(found, many) : null;
    }

    int read() {
        String[] chunks = chunks();
        if (chunks == null) {
            return -2;
        }
        StringBuilder all = new StringBuilder();
        for (String chunk : chunks) {
            all.append(chunk.startsWith("IDAT") ? chunk.substring(4) : "");
        }
        String head = chunks[0].substring(4);
        Model other = new Model();
        if (head.length() != 13 || chunks[chunks.length - 1].length() != 4
            || !(head.startsWith("\0\0\0") && head.startsWith("\0\0\0", 4))
            || !other.begin(head.charAt(9), head.charAt(8), head.charAt(3), head.charAt(7))
            || !head.startsWith("\0\0", 10) || head.charAt(12) > 1) {
            return -3;
        }
        byte[] data = other.unpacked(all.toString());
        if (data == null) {
            return -4;
        }
        if (!other.takeData(data, head.charAt(12) == 1)) {
            return -5;
        }
        kind = other.kind;
        depth = other.depth;
        w = other.w;
        h = other.h;
        samples = other.samples;
        rows = other.rows;
        copies = other.copies;
        return 0;
    }

    private boolean takeData(byte[] data, boolean seven) {
        int k = 0;
        for (int[] pass : seven ? PASSES : WHOLE) {
            int points = 0;
            for (int x = pass[0]; x < w; x += pass[2]) {
                points++;
            }
            int size = (points * perPoint(kind) * depth + 7) / 8;
            byte[] above = null;
            for (int y = pass[1]; y < h && points > 0; y += pass[3]) {
                if (k + 1 + size > data.length || data[k] < 0 || data[k] > 4) {
                    return false;
                }
                byte[] row = Arrays.copyOfRange(data, k + 1, k + 1 + size);
                StringBuilder bits = new StringBuilder();
                for (int i = 0; i < size; i++) {
                    row[i] += (byte) guess(data[k], row, above, i, unit());
                    bits.append(bitsOf(row[i] & 255, 8));
                }
                takeSamples(bits, pass, y);
                rows[data[k]]++;
                above = row;
                k += 1 + size;
            }
        }
        return k == data.length;
    }

    private void takeSamples(StringBuilder bits, int[] pass, int y) {
        int bit = 0;
        for (int x = pass[0]; x < w; x += pass[2]) {
            for (int c = 0; c < perPoint(kind); c++) {
                samples[x][y][c] = Integer.parseInt(bits.substring(bit, bit + depth), 2);
                bit += depth;
            }
        }
    }

    /** The data of the packed data, or null when these are refused. */
    private byte[] unpacked(String packed) {
        if (packed.length() < 2) {
            return null;
        }
        int p = packed.charAt(0);
        int q = packed.charAt(1);
        if ((p & 0x8F) != 8 || (p * 256 + q) % 31 != 0 || (q & 32) != 0) {
            return null;
        }
        StringBuilder bits = new StringBuilder();
        for (int k = 2; k < packed.length(); k++) {
            bits.append(turned(bitsOf(packed.charAt(k), 8)));
        }
        Inflation in = new Inflation(bits.toString());
        if (!in.run()) {
            return null;
        }
        copies = in.copies;
        String rest = bits.substring((in.at + 7) / 8 * 8);
        byte[] data = in.out.toByteArray();
        StringBuilder sum = new StringBuilder();
        for (byte b : PackedData.number(PackedData.sumOf(data))) {
            sum.append(turned(bitsOf(b & 255, 8)));
        }
        return rest.equals(sum.toString()) ? data : null;
    }

    /** The blocks, taken from a text of bits. */
    private static final class Inflation {
        private final String bits;
        private final ByteArrayOutputStream out = new ByteArrayOutputStream();
        private int at = 0;
        private int copies = 0;

        private Inflation(String bits) {
            this.bits = bits;
        }

        /** A number of bits, the lowest first; -1 when they end too early. */
        private int number(int size) {
            if (at + size > bits.length()) {
                at = bits.length() + 1;
                return -1;
            }
            at += size;
            return size == 0 ? 0 : Integer.parseInt(turned(bits.substring(at - size, at)), 2);
        }

        private boolean run() {
            while (true) {
                int last = number(1);
                int form = number(2);
                if (last < 0 || form < 0 || form > 1 || !(form == 0 ? plain() : codes())) {
                    return false;
                }
                if (last == 1) {
                    return true;
                }
            }
        }

        private boolean plain() {
            at = (at + 7) / 8 * 8;
            int n = number(16);
            int turned = number(16);
            if (n < 0 || turned < 0 || n + turned != 65535 || out.size() + n > 300) {
                return false;
            }
            for (int i = 0; i < n; i++) {
                int b = number(8);
                if (b < 0) {
                    return false;
                }
                out.write(b);
            }
            return true;
        }

        private int code() {
            for (int size = 7; size <= 9 && at + size <= bits.length(); size++) {
                Integer code = WORDS.get(bits.substring(at, at + size));
                if (code != null) {
                    at += size;
                    return code;
                }
            }
            return -1;
        }

        private boolean codes() {
            while (true) {
                int code = code();
                if (code == 256) {
                    return true;
                }
                if (code < 0 || code > 285 || (code < 256 ? !literal(code) : !copy(code - 257))) {
                    return false;
                }
            }
        }

        private boolean literal(int b) {
            out.write(b);
            return out.size() <= 300;
        }

        private boolean copy(int l) {
            int x = number(LENGTH_BITS[l]);
            if (x < 0 || at + 5 > bits.length()) {
                return false;
            }
            int t = Integer.parseInt(bits.substring(at, at + 5), 2);
            at += 5;
            if (t > 29) {
                return false;
            }
            int y = number(DISTANCE_BITS[t]);
            int length = LENGTHS[l] + x;
            int distance = DISTANCES[t] + y;
            if (y < 0 || distance > out.size() || out.size() + length > 300) {
                return false;
            }
            for (int i = 0; i < length; i++) {
                out.write(out.toByteArray()[out.size() - distance]);
            }
            copies++;
            return true;
        }
    }
}
