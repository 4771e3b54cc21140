/** All that an object can be asked without being changed, as texts. */
final class State {
    private State() {
    }

    static String of(SevenPassImage x) {
        return picture(x) + ", " + file(x) + ", " + counts(x);
    }

    static String picture(SevenPassImage x) {
        int shape = x.shape();
        StringBuilder text = new StringBuilder("shape " + shape + ", samples");
        int s = Pictures.perPoint(shape / 1000000);
        int w = shape / 100 % 100;
        int h = shape % 100;
        for (int k = 0; k < w * h * s; k++) {
            text.append(' ').append(x.get(k / s % w, k / s / w, k % s));
        }
        return text.toString();
    }

    static String file(SevenPassImage x) {
        int length = x.length();
        StringBuilder text = new StringBuilder(length + " bytes");
        for (int k = 0; k < length; k++) {
            text.append(' ').append(x.byteAt(k));
        }
        return text.toString();
    }

    /** What rows and copies answer. */
    static String counts(SevenPassImage x) {
        StringBuilder text = new StringBuilder("rows");
        for (int filter = 0; filter < 5; filter++) {
            text.append(' ').append(x.rows(filter));
        }
        return text.append(", copies ").append(x.copies()).toString();
    }
}
