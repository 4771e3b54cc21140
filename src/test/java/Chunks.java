import java.nio.charset.StandardCharsets;
import java.util.zip.CRC32;

/** Builds files out of chunks, and objects that hold them. */
final class Chunks {
    static final byte[] BEGINNING = {(byte) 137, 80, 78, 71, 13, 10, 26, 10};
    static final byte[] LAST = chunk("IEND");

    private Chunks() {
    }

    static byte[] chunk(String type, int... content) {
        return chunk(type, bytes(content));
    }

    static byte[] chunk(String type, byte[] content) {
        byte[] body = PackedData.joined(type.getBytes(StandardCharsets.ISO_8859_1), content);
        CRC32 check = new CRC32();
        check.update(body);
        return PackedData.joined(PackedData.number(content.length), body,
            PackedData.number(check.getValue()));
    }

    static byte[] bytes(int... numbers) {
        byte[] bytes = new byte[numbers.length];
        for (int i = 0; i < numbers.length; i++) {
            bytes[i] = (byte) numbers[i];
        }
        return bytes;
    }

    static byte[] head(int kind, int depth, int w, int h, boolean seven) {
        return chunk("IHDR", 0, 0, 0, w, 0, 0, 0, h, depth, kind, 0, 0, seven ? 1 : 0);
    }

    static byte[] file(byte[]... chunks) {
        return PackedData.joined(BEGINNING, PackedData.joined(chunks));
    }

    /** A file of one DATA with the packed data. */
    static byte[] whole(byte[] head, byte[] packed) {
        return file(head, chunk("IDAT", packed), LAST);
    }

    /** Puts the bytes at the end of the object's file; the calls count towards its 512. */
    static void fill(SevenPassImage x, byte[] file) {
        for (byte b : file) {
            Checks.due("append", x.append(b & 255), true);
        }
    }

    static SevenPassImage holding(byte[] file) {
        SevenPassImage x = new SevenPassImage();
        fill(x, file);
        return x;
    }

    static int read(byte[] file) {
        return holding(file).read();
    }
}
