import java.io.ByteArrayOutputStream;
import java.util.Random;

/** Many pictures, files and runs of calls, each answer compared with the model's. */
public final class ModelTest {
    private static final int[][] KINDS = {{0, 1}, {0, 2}, {0, 4}, {0, 8}, {2, 8}, {4, 8}, {6, 8}};
    private static final Random RANDOM = new Random(20261115);

    private SevenPassImage x;
    private Model m;
    private String name;

    public static void main(String[] args) {
        for (int[] kind : KINDS) {
            for (int size = 0; size < 64; size++) {
                for (int way = 0; way < 12; way++) {
                    new ModelTest().written(kind, size, way % 2 == 1, way / 2);
                }
            }
        }
        for (int run = 0; run < 4000; run++) {
            new ModelTest().spoiledFile(run);
            new ModelTest().packedAnyhow(run);
        }
        for (int run = 0; run < 400; run++) {
            new ModelTest().mixedCalls(run);
        }
        Checks.end();
    }

    // No object gets more than the 512 calls that the document binds it for.
    private void written(int[] kind, int size, boolean seven, int filter) {
        long seed = RANDOM.nextLong();
        startBoth(kind, size % 8 + 1, size / 8 + 1);
        paint(new Random(seed));
        write(seven, filter);
        sameFile();
        startBoth(kind, size % 8 + 1, size / 8 + 1);
        paint(new Random(seed));
        write(seven, filter);
        due("begin", x.begin(0, 1, 1, 1), m.begin(0, 1, 1, 1));
        due("read", x.read(), m.read());
        due("read is 0", m.read(), 0);
        samePicture();
    }

    private void startBoth(int[] kind, int w, int h) {
        x = new SevenPassImage();
        m = new Model();
        name = "kind " + kind[0] + " depth " + kind[1] + " " + w + " x " + h;
        due("begin", x.begin(kind[0], kind[1], w, h), m.begin(kind[0], kind[1], w, h));
    }

    private void due(String what, long got, long want) {
        Checks.due(name + ": " + what, got, want);
    }

    private void due(String what, boolean got, boolean want) {
        Checks.due(name + ": " + what, got, want);
    }

    /** Samples that are now wild, now even, so that literals, copies and all filters occur. */
    private void paint(Random random) {
        int style = random.nextInt(4);
        int points = style == 0 ? 4 : 60;
        int mask = m.shape() % 1000000 >= 80000 ? 255 : 3;
        for (int i = 0; i < points; i++) {
            int v = style == 1 ? random.nextInt(256) : style == 2 ? 7 * (i % 3) : random.nextInt(4);
            put(i % 8, random.nextInt(8), random.nextInt(4), v & mask);
        }
    }

    private void put(int column, int row, int c, int v) {
        due("set " + column + "," + row + "," + c + "," + v, x.set(column, row, c, v),
            m.set(column, row, c, v));
    }

    private void write(boolean seven, int filter) {
        due("write " + seven + " " + filter, x.write(seven, filter), m.write(seven, filter));
    }

    private void sameFile() {
        due("length", x.length(), m.length());
        for (int k = -1; k <= m.length(); k++) {
            due("byteAt " + k, x.byteAt(k), m.byteAt(k));
        }
    }

    private void samePicture() {
        due("shape", x.shape(), m.shape());
        int w = m.shape() / 100 % 100;
        int h = m.shape() % 100;
        for (int i = 0; i < 4 * w * h; i++) {
            int c = i / (w * h);
            if (m.get(0, 0, c) >= 0) {
                due("get", x.get(i % w, i / w % h, c), m.get(i % w, i / w % h, c));
            }
        }
        for (int filter = 0; filter < 5; filter++) {
            due("rows " + filter, x.rows(filter), m.rows(filter));
        }
        due("copies", x.copies(), m.copies());
    }

    private void spoiledFile(int run) {
        int[] kind = KINDS[RANDOM.nextInt(KINDS.length)];
        startBoth(kind, RANDOM.nextInt(8) + 1, RANDOM.nextInt(8) + 1);
        name = "spoiled file " + run + ": " + name;
        paint(RANDOM);
        write(RANDOM.nextBoolean(), RANDOM.nextInt(6));
        int changes = RANDOM.nextInt(3);
        for (int j = 0; j <= changes; j++) {
            spoil();
        }
        if (RANDOM.nextInt(8) != 0) {
            due("seal", x.seal(8), m.seal(8));
            due("seal", x.seal(33), m.seal(33));
        }
        due("read", x.read(), m.read());
        samePicture();
    }

    /** Any blocks, with any filters and any bits left over, that mostly fit some picture. */
    private void packedAnyhow(int run) {
        int[] kind = KINDS[RANDOM.nextInt(KINDS.length)];
        int w = RANDOM.nextInt(8) + 1;
        int h = RANDOM.nextInt(kind[0] == 0 ? 8 : 3) + 1;
        boolean seven = RANDOM.nextBoolean();
        byte[] data = dataLike(kind, w, h, seven);
        PackedData packed = new PackedData().fillWith(RANDOM.nextBoolean() ? '1' : '0');
        int done = 0;
        while (done < data.length) {
            done += anyBlock(packed, data, done, RANDOM.nextInt(40) == 0);
        }
        packed.plain(true);
        byte[] file = Chunks.whole(Chunks.head(kind[0], kind[1], w, h, seven), packed.bytes());
        x = new SevenPassImage();
        m = new Model();
        name = "packed anyhow " + run;
        for (byte b : file) {
            due("append", x.append(b & 255), m.append(b & 255));
        }
        due("read", x.read(), m.read());
        samePicture();
    }

    private static byte[] dataLike(int[] kind, int w, int h, boolean seven) {
        int perPoint = kind[0] == 0 ? 1 : kind[0] == 2 ? 3 : kind[0] == 4 ? 2 : 4;
        int[][] passes = seven ? Model.PASSES : Model.WHOLE;
        ByteArrayOutputStream out = new ByteArrayOutputStream();
        int wild = RANDOM.nextInt(2) == 0 ? 256 : 3;
        for (int[] pass : passes) {
            int points = Math.max(0, (w - pass[0] + pass[2] - 1) / pass[2]);
            for (int y = pass[1]; y < h && points > 0; y += pass[3]) {
                out.write(RANDOM.nextInt(300) == 0 ? 5 : RANDOM.nextInt(5));
                for (int k = 0; k < (points * perPoint * kind[1] + 7) / 8; k++) {
                    out.write(RANDOM.nextInt(wild));
                }
            }
        }
        if (RANDOM.nextInt(10) == 0) {
            out.write(0);
        }
        return out.toByteArray();
    }

    /** Puts a block for bytes of the data from a place on, and tells for how many. */
    private static int anyBlock(PackedData packed, byte[] data, int from, boolean spoil) {
        int n = RANDOM.nextInt(Math.min(20, data.length - from) + 1);
        int[] part = new int[n];
        for (int i = 0; i < n; i++) {
            part[i] = data[from + i] & 255;
        }
        if (RANDOM.nextInt(3) == 0) {
            packed.plain(false, part);
            return n;
        }
        packed.block(false, 1).literals(part);
        int distance = RANDOM.nextInt(4) + 1;
        int length = 3;
        boolean copies = from + n >= distance && from + n + length <= data.length;
        if (copies) {
            packed.copy(257, 0, 0, distance - 1, 0, 0).gives(length, distance);
            // The copy is what the data are from now on, whatever they were to be.
            System.arraycopy(packed.data(), 0, data, 0, from + n + length);
        }
        if (spoil) {
            packed.highestFirst(RANDOM.nextInt(512), 9);
        }
        packed.end();
        return copies ? n + length : n;
    }

    private void spoil() {
        int from = RANDOM.nextInt(6) == 0 ? 16 : 41;
        int k = from + RANDOM.nextInt(Math.max(1, m.length() - from - 16));
        int b = RANDOM.nextBoolean() ? m.byteAt(k) ^ 1 << RANDOM.nextInt(8) : RANDOM.nextInt(256);
        due("poke " + k + "," + b, x.poke(k, b), m.poke(k, b));
    }

    private void mixedCalls(int run) {
        x = new SevenPassImage();
        m = new Model();
        for (int call = 0; call < 200; call++) {
            name = "mixed run " + run + " call " + call;
            mixedCall(RANDOM.nextInt(16));
        }
        samePicture();
    }

    private void mixedCall(int which) {
        int a = near(9);
        int b = near(9);
        int c = near(5);
        int v = near(RANDOM.nextBoolean() ? 3 : 257);
        int k = near(m.length() + 2);
        switch (which) {
            case 0 -> due("begin", x.begin(c, v, a, b), m.begin(c, v, a, b));
            case 1 -> {
                int[] kind = KINDS[RANDOM.nextInt(KINDS.length)];
                due("begin", x.begin(kind[0], kind[1], a, b), m.begin(kind[0], kind[1], a, b));
            }
            case 2 -> due("shape", x.shape(), m.shape());
            case 3, 4 -> due("set", x.set(a, b, c, v), m.set(a, b, c, v));
            case 5 -> due("get", x.get(a, b, c), m.get(a, b, c));
            case 6 -> due("write", x.write(a > b, c), m.write(a > b, c));
            case 7, 8 -> due("read", x.read(), m.read());
            case 9 -> due("length", x.length(), m.length());
            case 10 -> due("byteAt", x.byteAt(k), m.byteAt(k));
            case 11 -> due("poke", x.poke(k, v), m.poke(k, v));
            case 12 -> due("append", x.append(v), m.append(v));
            case 13 -> due("trim", x.trim(k), m.trim(k));
            case 14 -> due("seal", x.seal(k), m.seal(k));
            default -> {
                due("rows", x.rows(c), m.rows(c));
                due("copies", x.copies(), m.copies());
            }
        }
    }

    /** Mostly -1 .. bound, now and then any number. */
    private static int near(int bound) {
        int wild = RANDOM.nextInt(40);
        return wild == 0 ? RANDOM.nextInt() : wild == 1 ? Integer.MIN_VALUE
            : wild == 2 ? Integer.MAX_VALUE : RANDOM.nextInt(bound + 2) - 1;
    }
}
