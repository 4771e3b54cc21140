import java.util.Arrays;
import java.util.function.Consumer;
import java.util.zip.DataFormatException;
import java.util.zip.Inflater;

/** Looks at the file that an object has written. */
final class Written {
    /** Where the packed data begin: behind the eight bytes, HEAD and two fields of DATA. */
    static final int PACKED_AT = 8 + 25 + 8;
    /** What lies behind the packed data: the check of DATA, and LAST. */
    static final int BEHIND_PACKED = 4 + 12;
    private static final int CALLS = 512;

    private Written() {
    }

    static byte[] file(SevenPassImage x) {
        byte[] file = new byte[x.length()];
        take(x, file, 0, file.length);
        return file;
    }

    private static void take(SevenPassImage x, byte[] file, int from, int to) {
        for (int k = from; k < to; k++) {
            file[k] = (byte) x.byteAt(k);
        }
    }

    /**
     * The file after calls that are too many for all bytes to be asked of one object: several
     * objects get the same calls, and each tells a part.
     */
    static byte[] file(Consumer<SevenPassImage> setUp, int calls) {
        SevenPassImage first = new SevenPassImage();
        setUp.accept(first);
        byte[] file = new byte[first.length()];
        int step = CALLS - calls;
        for (int from = 0; from < file.length; from += step) {
            SevenPassImage x = new SevenPassImage();
            setUp.accept(x);
            take(x, file, from, Math.min(file.length, from + step));
        }
        return file;
    }

    static byte[] packed(byte[] file) {
        return Arrays.copyOfRange(file, PACKED_AT, file.length - BEHIND_PACKED);
    }

    /** The data of a written file, by the library's inflater. */
    static byte[] data(SevenPassImage x) {
        byte[] packed = packed(file(x));
        Inflater inflater = new Inflater();
        byte[] data = new byte[1000];
        int size = 0;
        try {
            inflater.setInput(packed);
            size = inflater.inflate(data);
            Checks.due("inflated to its end", inflater.finished(), true);
            Checks.due("bytes left", inflater.getRemaining(), 0);
        } catch (DataFormatException refused) {
            Checks.due("packed data refused: " + refused.getMessage(), 1, 0);
        }
        inflater.end();
        return Arrays.copyOf(data, size);
    }

    static void dueData(String what, SevenPassImage x, int... want) {
        Checks.due(what, Arrays.toString(data(x)), Arrays.toString(Chunks.bytes(want)));
    }

    static void duePacked(String what, SevenPassImage x, PackedData want, int copies) {
        Checks.due(what, Arrays.toString(packed(file(x))), Arrays.toString(want.bytes()));
        Checks.due(what + ": copies", x.copies(), copies);
    }
}
