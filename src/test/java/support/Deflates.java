/** DEFLATE written by hand, bit by bit, as the data of a PNG of one grey row. */
final class Deflates {
    private static final int[] ORDER = {16, 17, 18, 0, 8, 7, 9, 6, 10, 5, 11, 4, 12, 3, 13, 2, 14, 1, 15};
    /** All of 0 .. 15 have codes of four bits, so each length is written as itself. */
    private static final int[] PLAIN = {4, 4, 4, 4, 4, 4, 4, 4, 4, 4, 4, 4, 4, 4, 4, 4, 0, 0, 0};

    private Deflates() {}

    /** A grey image of one row that is these bytes behind a 0. */
    static byte[] png(byte[] zlib, int width) {
        return Pngs.file(Pngs.header(width, 1, 8, 0, 0), Pngs.data(zlib));
    }

    static void gives(String what, Desks.Bits deflate, int... row) {
        byte[] rows = Desks.bytes(row);
        int[] due = new int[row.length - 1];
        for (int k = 0; k < due.length; k++) {
            due[k] = (row[k + 1] & 255) * 0x01010100 | 255;
        }
        Desks.reads(what, png(Pngs.zlibRound(deflate.bytes(), rows), due.length), 0, due.length, due);
    }

    /** Refused, though the rows would be as long as is due. */
    static void broken(String what, Desks.Bits deflate, int... row) {
        byte[] rows = Desks.bytes(row);
        Desks.refuses(what, Desks.BROKEN, png(Pngs.zlibRound(deflate.bytes(), rows), row.length - 1));
    }

    static Desks.Bits block(int last, int type) {
        return block(new Desks.Bits(), last, type);
    }

    static Desks.Bits block(Desks.Bits behind, int last, int type) {
        return behind.number(last, 1).number(type, 2);
    }

    static String word(int value, int n) {
        String bits = Integer.toBinaryString(value);
        return "0".repeat(n - bits.length()) + bits;
    }

    static String fixedCode(int meaning) {
        if (meaning < 144) {
            return word(0b00110000 + meaning, 8);
        }
        if (meaning < 256) {
            return word(0b110010000 + meaning - 144, 9);
        }
        return meaning < 280 ? word(meaning - 256, 7) : word(0b11000000 + meaning - 280, 8);
    }

    /** A fixed block, the last one, of these bytes, without its end. */
    static Desks.Bits fixed(int... bytes) {
        Desks.Bits bits = block(1, 1);
        for (int v : bytes) {
            bits.code(fixedCode(v));
        }
        return bits;
    }

    static Desks.Bits end(Desks.Bits bits) {
        return bits.code(fixedCode(256));
    }

    /** The head of a stored block and its two numbers. */
    static Desks.Bits stored(Desks.Bits behind, int last, int n) {
        return block(behind, last, 0).toByte().number(n, 16).number(65535 - n, 16);
    }

    /** A block with CODES of its own: the three numbers, the lengths of the codes for lengths, and no more. */
    static Desks.Bits dynamicHead(int literals, int distances, int... lengthsOfLengths) {
        int most = 4;
        for (int k = 0; k < 19; k++) {
            if (lengthsOfLengths[ORDER[k]] > 0) {
                most = Math.max(most, k + 1);
            }
        }
        return dynamicHead(literals, distances, most, lengthsOfLengths);
    }

    static Desks.Bits dynamicHead(int literals, int distances, int told, int[] lengthsOfLengths) {
        Desks.Bits bits = block(1, 2).number(literals - 257, 5).number(distances - 1, 5).number(told - 4, 4);
        for (int k = 0; k < told; k++) {
            bits.number(lengthsOfLengths[ORDER[k]], 3);
        }
        return bits;
    }

    static Desks.Bits plainHead(int[] literalLengths, int[] distanceLengths) {
        Desks.Bits bits = dynamicHead(literalLengths.length, distanceLengths.length, PLAIN);
        for (int length : literalLengths) {
            bits.code(word(length, 4));
        }
        for (int length : distanceLengths) {
            bits.code(word(length, 4));
        }
        return bits;
    }

    /** n lengths, all 0 but those that are told, each behind its meaning. */
    static int[] lengths(int n, int... meaningsAndLengths) {
        int[] made = new int[n];
        for (int k = 0; k < meaningsAndLengths.length; k += 2) {
            made[meaningsAndLengths[k]] = meaningsAndLengths[k + 1];
        }
        return made;
    }
}
