/** Makes objects whose picture has given samples, and looks at all samples of a picture. */
final class Pictures {
    /** Each kind with each depth that goes with it. */
    static final int[][] KINDS = {{0, 1}, {0, 2}, {0, 4}, {0, 8}, {2, 8}, {4, 8}, {6, 8}};

    private Pictures() {
    }

    static int perPoint(int kind) {
        return kind == 0 ? 1 : kind == 2 ? 3 : kind == 4 ? 2 : 4;
    }

    /** The samples row by row, point by point, those of a point in their order. */
    static SevenPassImage of(int kind, int depth, int w, int... samples) {
        SevenPassImage x = new SevenPassImage();
        int perRow = w * perPoint(kind);
        Checks.due("begin", x.begin(kind, depth, w, samples.length / perRow), true);
        paint(x, kind, w, samples);
        return x;
    }

    static SevenPassImage grey(int w, int... samples) {
        return of(0, 8, w, samples);
    }

    static void paint(SevenPassImage x, int kind, int w, int... samples) {
        int s = perPoint(kind);
        for (int k = 0; k < samples.length; k++) {
            int point = k / s;
            Checks.due("set " + k, x.set(point % w, point / w, k % s, samples[k]), true);
        }
    }

    static void dueSamples(String what, SevenPassImage x, int... want) {
        int shape = x.shape();
        int s = perPoint(shape / 1000000);
        int w = shape / 100 % 100;
        Checks.due(what + ": number of samples", shape % 100 * w * s, want.length);
        for (int k = 0; k < want.length; k++) {
            int point = k / s;
            Checks.due(what + ": sample " + k, x.get(point % w, point / w, k % s), want[k]);
        }
    }
}
