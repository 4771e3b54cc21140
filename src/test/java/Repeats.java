import java.util.Arrays;

/**
 * The data of a colour picture with a mask, eight by eight, in one pass and by filter 0, whose
 * bytes differ so much that three in a row come again at one place only, from one distance.
 */
final class Repeats {
    static final int SIZE = 264;
    static final int MOST_DISTANCE = SIZE - 3;
    private static final int ROW = 33;

    final int[] data;
    final int place;

    Repeats(int distance) {
        int at = distance;
        int[] found = repeating(at, distance);
        while (at + 4 <= SIZE && (found == null || !comesAgainOnlyAt(found, at, distance))) {
            at++;
            found = repeating(at, distance);
        }
        Checks.due("a place for distance " + distance, found != null, true);
        data = found;
        place = at;
    }

    /** Null where a copy would lie on the byte with a filter's number. */
    private static int[] repeating(int place, int distance) {
        int[] data = new int[SIZE];
        int next = 1;
        for (int k = 0; k < SIZE; k++) {
            data[k] = k % ROW == 0 ? 0 : next & 255;
            next += k % ROW == 0 ? 0 : 1;
        }
        for (int k = place; k < place + 3; k++) {
            data[k] = data[k - distance];
            if (k % ROW == 0) {
                return null;
            }
        }
        return data;
    }

    private static boolean comesAgainOnlyAt(int[] data, int place, int distance) {
        for (int k = 1; k < SIZE; k++) {
            for (int d = 1; d <= k; d++) {
                int same = 0;
                while (k + same < SIZE && data[k + same] == data[k + same - d]) {
                    same++;
                }
                boolean due = k == place && d == distance;
                // Inside the copy no other one begins, as it is passed over.
                boolean inside = k > place && k < place + 3;
                if (due ? same != 3 : !inside && same >= 3) {
                    return false;
                }
            }
        }
        return true;
    }

    /** The 256 samples, row by row. */
    int[] samples() {
        int[] samples = new int[256];
        int next = 0;
        for (int k = 0; k < SIZE; k++) {
            if (k % ROW != 0) {
                samples[next] = data[k];
                next++;
            }
        }
        return samples;
    }

    /** The bytes before the copy as literals, the copy, and the bytes behind it. */
    PackedData packed(int t, int y, int yBits, int distance) {
        PackedData packed = new PackedData().block(true, 1);
        packed.literals(Arrays.copyOf(data, place));
        packed.copy(257, 0, 0, t, y, yBits).gives(3, distance);
        return packed.literals(Arrays.copyOfRange(data, place + 3, SIZE)).end();
    }
}
