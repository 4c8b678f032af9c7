import java.io.ByteArrayOutputStream;
import java.nio.charset.StandardCharsets;
import java.util.zip.Adler32;
import java.util.zip.CRC32;
import java.util.zip.Deflater;

/** PNG files put together from their parts. */
final class Pngs {
    static final byte[] SIGNATURE = Desks.bytes(137, 80, 78, 71, 13, 10, 26, 10);

    private Pngs() {}

    static byte[] part(String letters, byte... content) {
        byte[] body = Desks.join(letters.getBytes(StandardCharsets.ISO_8859_1), content);
        CRC32 crc = new CRC32();
        crc.update(body);
        return Desks.join(Desks.big4(content.length), body, Desks.big4((int) crc.getValue()));
    }

    static byte[] header(int width, int height, int depth, int kind, int interlace) {
        return part("IHDR", Desks.join(
                Desks.big4(width), Desks.big4(height), Desks.bytes(depth, kind, 0, 0, interlace)));
    }

    static byte[] data(byte[] zlib) {
        return part("IDAT", zlib);
    }

    static byte[] end() {
        return part("IEND");
    }

    /** Signature, these parts, and IEND. */
    static byte[] file(byte[]... parts) {
        return Desks.join(SIGNATURE, Desks.join(parts), end());
    }

    static byte[] zlib(byte[] rows, int level, int strategy) {
        Deflater deflater = new Deflater(level);
        deflater.setStrategy(strategy);
        deflater.setInput(rows);
        deflater.finish();
        ByteArrayOutputStream made = new ByteArrayOutputStream();
        byte[] room = new byte[65536];
        while (!deflater.finished()) {
            made.write(room, 0, deflater.deflate(room));
        }
        deflater.end();
        return made.toByteArray();
    }

    static byte[] zlib(int... rows) {
        return zlib(Desks.bytes(rows), 9, Deflater.DEFAULT_STRATEGY);
    }

    /** ZLIB round DEFLATE that was written by hand and gives these bytes. */
    static byte[] zlibRound(byte[] deflate, byte[] gives) {
        return Desks.join(Desks.bytes(120, 1), deflate, adler(gives));
    }

    static byte[] adler(byte[] bytes) {
        Adler32 adler = new Adler32();
        adler.update(bytes);
        return Desks.big4((int) adler.getValue());
    }
}
