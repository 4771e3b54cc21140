import java.io.ByteArrayOutputStream;
import java.util.zip.Adler32;

/** Builds packed data bit by bit, right or wrong, while it keeps the data that they stand for. */
final class PackedData {
    private final StringBuilder bits = new StringBuilder();
    private final ByteArrayOutputStream data = new ByteArrayOutputStream();
    private int first = 120;
    private int second = 1;
    private char fill = '0';

    PackedData start(int p, int q) {
        first = p;
        second = q;
        return this;
    }

    PackedData fillWith(char bit) {
        fill = bit;
        return this;
    }

    PackedData block(boolean last, int form) {
        bits.append(last ? '1' : '0');
        return lowestFirst(form, 2);
    }

    PackedData lowestFirst(int number, int size) {
        for (int i = 0; i < size; i++) {
            bits.append((number >> i & 1) == 1 ? '1' : '0');
        }
        return this;
    }

    PackedData highestFirst(int number, int size) {
        for (int i = size - 1; i >= 0; i--) {
            bits.append((number >> i & 1) == 1 ? '1' : '0');
        }
        return this;
    }

    PackedData fillByte() {
        while (bits.length() % 8 != 0) {
            bits.append(fill);
        }
        return this;
    }

    /** A whole block of form 0. */
    PackedData plain(boolean last, int... bytes) {
        block(last, 0).fillByte();
        lowestFirst(bytes.length, 16).lowestFirst(65535 - bytes.length, 16);
        for (int b : bytes) {
            lowestFirst(b, 8);
            data.write(b);
        }
        return this;
    }

    PackedData literals(int... bytes) {
        for (int b : bytes) {
            if (b < 144) {
                highestFirst(48 + b, 8);
            } else {
                highestFirst(256 + b, 9);
            }
            data.write(b);
        }
        return this;
    }

    PackedData end() {
        return highestFirst(0, 7);
    }

    /** The bits of a copy as given; its bytes are noted with gives(). */
    PackedData copy(int code, int extra, int extraBits, int t, int more, int moreBits) {
        if (code < 280) {
            highestFirst(code - 256, 7);
        } else {
            highestFirst(code - 88, 8);
        }
        return lowestFirst(extra, extraBits).highestFirst(t, 5).lowestFirst(more, moreBits);
    }

    PackedData gives(int length, int distance) {
        for (int i = 0; i < length; i++) {
            byte[] soFar = data();
            data.write(soFar[soFar.length - distance]);
        }
        return this;
    }

    /** How many bits stand in the last byte; 0 when it is full. */
    int bitsInLastByte() {
        return bits.length() % 8;
    }

    byte[] data() {
        return data.toByteArray();
    }

    byte[] withoutSum() {
        fillByte();
        ByteArrayOutputStream out = new ByteArrayOutputStream();
        out.write(first);
        out.write(second);
        for (int k = 0; k < bits.length(); k += 8) {
            StringBuilder one = new StringBuilder(bits.substring(k, k + 8)).reverse();
            out.write(Integer.parseInt(one.toString(), 2));
        }
        return out.toByteArray();
    }

    byte[] bytes() {
        return joined(withoutSum(), number(sumOf(data())));
    }

    static long sumOf(byte[] bytes) {
        Adler32 sum = new Adler32();
        sum.update(bytes);
        return sum.getValue();
    }

    static byte[] number(long n) {
        return new byte[] {(byte) (n >> 24), (byte) (n >> 16), (byte) (n >> 8), (byte) n};
    }

    static byte[] joined(byte[]... parts) {
        ByteArrayOutputStream out = new ByteArrayOutputStream();
        for (byte[] part : parts) {
            out.writeBytes(part);
        }
        return out.toByteArray();
    }
}
