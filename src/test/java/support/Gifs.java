import java.io.ByteArrayOutputStream;
import java.util.Arrays;

/** GIF files put together from their blocks. */
final class Gifs {
    static final byte[] FOUR = Desks.bytes(1, 2, 3, 4, 5, 6, 7, 8, 9, 10, 11, 12);
    static final int[] COLOURS = {0x010203FF, 0x040506FF, 0x070809FF, 0x0A0B0CFF};
    static final byte[] NONE = new byte[0];
    static final byte[] END = Desks.bytes(59);
    /** An image of one point, which has index 1. */
    static final byte[] DOT = image(0, 0, 1, 1, 0, NONE, 2, codes(2, 4, 1, 5));

    private Gifs() {}

    static byte[] head(int width, int height, int flags, byte[] table) {
        return Desks.join("GIF89a".getBytes(), Desks.little2(width), Desks.little2(height), Desks.bytes(flags, 3, 4), table);
    }

    /** A screen of that size with four colours, these blocks, and the end. */
    static byte[] file(int width, int height, byte[]... blocks) {
        return Desks.join(head(width, height, 129, FOUR), Desks.join(blocks), END);
    }

    static byte[] image(int left, int top, int width, int height, int flags, byte[] table, int m, byte[] lzw) {
        return Desks.join(Desks.bytes(44), Desks.little2(left), Desks.little2(top), Desks.little2(width),
                Desks.little2(height), Desks.bytes(flags), table, Desks.bytes(m), subs(lzw, 255));
    }

    /** An image at 0 0 without a table of its own. */
    static byte[] image(int width, int height, int m, byte[] lzw) {
        return image(0, 0, width, height, 0, NONE, m, lzw);
    }

    static byte[] extension(int label, int... rest) {
        return Desks.join(Desks.bytes(33, label), Desks.bytes(rest));
    }

    static byte[] subs(byte[] data, int most) {
        ByteArrayOutputStream made = new ByteArrayOutputStream();
        for (int at = 0; at < data.length; at += most) {
            int n = Math.min(most, data.length - at);
            made.write(n);
            made.write(data, at, n);
        }
        made.write(0);
        return made.toByteArray();
    }

    /** Codes in the bits that are due for each: rows are counted from each beginning on. */
    static byte[] codes(int m, int... codes) {
        Desks.Bits bits = new Desks.Bits();
        int n = m + 1;
        int behindBeginning = 0;
        for (int code : codes) {
            bits.number(code, n);
            behindBeginning = code == 1 << m ? 0 : behindBeginning + 1;
            int next = (1 << m) + 2 + Math.max(0, behindBeginning - 1);
            n = m + 1;
            while (n < 12 && next >= 1 << n) {
                n++;
            }
        }
        return bits.bytes();
    }

    /** Of m bits, with those codes in one row, these indices of the four colours come. */
    static void lzwGives(String what, int m, int[] codes, int... indices) {
        byte[] block = image(indices.length, 1, m, codes(m, codes));
        Desks.reads(what, file(indices.length, 1, block), 1, indices.length, colours(indices));
    }

    static void lzwBroken(String what, int width, int m, int... codes) {
        Desks.refuses(what, Desks.BROKEN, file(width, 1, image(width, 1, m, codes(m, codes))));
    }

    static int[] colours(int... indices) {
        return Arrays.stream(indices).map(index -> COLOURS[index]).toArray();
    }

    /** The colour that stands at that index of a table. */
    static int colour(byte[] table, int index) {
        int at = 3 * index;
        return (table[at] & 255) << 24 | (table[at + 1] & 255) << 16 | (table[at + 2] & 255) << 8 | 255;
    }
}
