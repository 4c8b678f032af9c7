import java.util.Random;
import java.util.zip.DataFormatException;
import java.util.zip.Inflater;

/** Promise 6, the ZLIB and DEFLATE of PNG, written by hand bit by bit. */
public final class InflateTest {
    private static final int[] ORDER = {16, 17, 18, 0, 8, 7, 9, 6, 10, 5, 11, 4, 12, 3, 13, 2, 14, 1, 15};

    public static void main(String[] args) {
        zlibHead();
        zlibEnd();
        stored();
        fixed();
        fixedCopies();
        dynamic();
        dynamicLengths();
        dynamicCodes();
        againstTheLibrary();
        Check.finish();
    }

    /** A grey image of one row that is these bytes behind a 0. */
    private static byte[] png(byte[] zlib, int width) {
        return Pngs.file(Pngs.header(width, 1, 8, 0, 0), Pngs.data(zlib));
    }

    private static void gives(String what, Desks.Bits deflate, int... row) {
        byte[] rows = Desks.bytes(row);
        int[] due = new int[row.length - 1];
        for (int k = 0; k < due.length; k++) {
            due[k] = row[k + 1] * 0x01010100 | 255;
        }
        Desks.reads(what, png(Pngs.zlibRound(deflate.bytes(), rows), due.length), 0, due.length, due);
    }

    /** Refused, though the rows would be as long as is due. */
    private static void broken(String what, Desks.Bits deflate, int... row) {
        byte[] rows = Desks.bytes(row);
        Desks.refuses(what, Desks.BROKEN, png(Pngs.zlibRound(deflate.bytes(), rows), row.length - 1));
    }

    private static Desks.Bits block(int last, int type) {
        return new Desks.Bits().number(last, 1).number(type, 2);
    }

    private static String word(int value, int n) {
        String bits = Integer.toBinaryString(value);
        return "0".repeat(n - bits.length()) + bits;
    }

    private static String fixedCode(int meaning) {
        if (meaning < 144) {
            return word(0b00110000 + meaning, 8);
        }
        if (meaning < 256) {
            return word(0b110010000 + meaning - 144, 9);
        }
        return meaning < 280 ? word(meaning - 256, 7) : word(0b11000000 + meaning - 280, 8);
    }

    private static void zlibHead() {
        byte[] body = block(1, 1).code(fixedCode(0)).code(fixedCode(5)).code(fixedCode(256)).bytes();
        byte[] end = Desks.join(body, Pngs.adler(Desks.bytes(0, 5)));
        for (int c = 0; c < 256; c++) {
            for (int f = 0; f < 256; f += c == 120 ? 1 : 31) {
                int check = (31 - (256 * c + (f & 224)) % 31) % 31;
                int second = c == 120 ? f : (f & 224) + check;
                boolean isRight = c % 16 == 8 && c < 128 && (256 * c + second) % 31 == 0 && (second & 32) == 0;
                byte[] file = png(Desks.join(Desks.bytes(c, second), end), 1);
                PictureDesk desk = new PictureDesk();
                Desks.load(desk, file);
                String what = "zlib " + c + " " + second;
                if (isRight) {
                    Check.answers(what, 0, () -> desk.read(0));
                } else {
                    Check.refuses(what, Desks.BROKEN, () -> desk.read(0));
                }
            }
        }
    }

    private static void zlibEnd() {
        byte[] body = block(1, 1).code(fixedCode(0)).code(fixedCode(5)).code(fixedCode(256)).bytes();
        byte[] adler = Pngs.adler(Desks.bytes(0, 5));
        byte[] whole = Desks.join(Desks.bytes(120, 1), body, adler);
        Desks.reads("the end of zlib", png(whole, 1), 0, 1, 0x050505FF);
        Desks.refuses("a byte behind ADLER", Desks.BROKEN, png(Desks.join(whole, Desks.bytes(0)), 1));
        for (int n = 0; n < whole.length; n++) {
            Desks.refuses("zlib of " + n, Desks.BROKEN, png(java.util.Arrays.copyOf(whole, n), 1));
        }
        for (int k = 1; k <= 4; k++) {
            byte[] wrong = Desks.with(whole, whole.length - k, whole[whole.length - k] + 1);
            Desks.refuses("another ADLER", Desks.BROKEN, png(wrong, 1));
        }
        Desks.Bits bits = block(1, 1).code(fixedCode(0)).code(fixedCode(5)).code(fixedCode(256)).number(31, 6);
        gives("bits behind the last block count for nothing", bits, 0, 5);
        byte[] many = new byte[16385];
        java.util.Arrays.fill(many, 1, many.length, (byte) 255);
        int[] white = new int[16384];
        java.util.Arrays.fill(white, -1);
        Desks.reads("ADLER of many large bytes", png(Pngs.zlib(many, 9, 0), 16384), 0, 16384, white);
    }

    private static void stored() {
        gives("stored", block(1, 0).toByte().number(3, 16).number(65532, 16).number(0x070500, 24), 0, 5, 7);
        gives("stored behind bits", block(1, 0).number(31, 5).number(2, 16).number(65533, 16).number(0x0500, 16), 0, 5);
        gives("stored in three, one empty",
                block(0, 0).toByte().number(1, 16).number(65534, 16).number(0, 8)
                        .number(0, 3).toByte().number(0, 16).number(65535, 16)
                        .number(1, 3).toByte().number(1, 16).number(65534, 16).number(9, 8), 0, 9);
        broken("stored with a wrong second number",
                block(1, 0).toByte().number(2, 16).number(65532, 16).number(0x0500, 16), 0, 5);
        broken("stored and too long", block(1, 0).toByte().number(200, 16).number(65335, 16).number(0x0500, 16), 0, 5);
        broken("no last block", block(0, 0).toByte().number(2, 16).number(65533, 16).number(0x0500, 16), 0, 5);
        broken("type 3", block(1, 3).code(fixedCode(0)).code(fixedCode(5)).code(fixedCode(256)), 0, 5);
    }

    private static void fixed() {
        Desks.Bits bits = block(1, 1);
        int[] row = new int[257];
        bits.code(fixedCode(0));
        for (int v = 0; v < 256; v++) {
            row[v + 1] = v;
            bits.code(fixedCode(v));
        }
        gives("all bytes", bits.code(fixedCode(256)), row);
        broken("a fixed block without its end", block(1, 1).code(fixedCode(0)).code(fixedCode(5)), 0, 5);
        gives("two fixed blocks", block(0, 1).code(fixedCode(0)).code(fixedCode(256))
                .number(1, 1).number(1, 2).code(fixedCode(7)).code(fixedCode(256)), 0, 7);
    }

    private static void fixedCopies() {
        int[] bases = {3, 4, 5, 6, 7, 8, 9, 10, 11, 13, 15, 17, 19, 23, 27, 31, 35, 43, 51, 59, 67, 83, 99, 115, 131, 163, 195, 227, 258};
        for (int code = 0; code < 29; code++) {
            int more = code < 8 || code == 28 ? 0 : (code - 4) / 4;
            for (int extra : new int[] {0, (1 << more) - 1}) {
                copy("length code " + (257 + code), code, extra, more, bases[code] + extra);
            }
        }
        // 284 with all its bits set tells 258 too; nothing forbids it.
        copy("length 258 by 284", 27, 31, 5, 258);
        broken("286", block(1, 1).code(fixedCode(0)).code(fixedCode(286)).code("00000").code(fixedCode(256)), 0, 0, 0, 0);
        broken("287", block(1, 1).code(fixedCode(0)).code(fixedCode(287)).code("00000").code(fixedCode(256)), 0, 0, 0, 0);
        broken("distance 30", fixedCopy(4, word(30, 5), 0, 0), 1, 1, 1, 1, 1, 1, 1);
        broken("distance 31", fixedCopy(4, word(31, 5), 0, 0), 1, 1, 1, 1, 1, 1, 1);
        gives("from the first byte", fixedCopy(4, word(3, 5), 0, 0), 0, 1, 2, 3, 0, 1, 2);
        broken("from before the first byte", fixedCopy(4, word(4, 5), 0, 1), 0, 1, 2, 3, 0, 1, 2);
        broken("a copy and too long", fixedCopy(4, word(3, 5), 0, 0), 0, 1, 2, 3, 0, 1);
        distances();
    }

    /** Bytes 0 .. literals - 1, then three copied. */
    private static Desks.Bits fixedCopy(int literals, String distance, int extra, int more) {
        Desks.Bits bits = block(1, 1);
        for (int v = 0; v < literals; v++) {
            bits.code(fixedCode(v));
        }
        return bits.code(fixedCode(257)).code(distance).number(extra, more).code(fixedCode(256));
    }

    private static void copy(String what, int code, int extra, int more, int length) {
        Desks.Bits bits = block(1, 1).code(fixedCode(0)).code(fixedCode(9)).code(fixedCode(4));
        bits.code(fixedCode(257 + code)).number(extra, more).code(word(1, 5)).code(fixedCode(256));
        int[] row = new int[3 + length];
        for (int k = 1; k < row.length; k++) {
            row[k] = k % 2 == 1 ? 9 : 4;
        }
        gives(what, bits, row);
    }

    /** Three bytes, zeros, and the three bytes again, so many back. */
    private static void distances() {
        int base = 1;
        for (int code = 0; code < 30; code++) {
            int more = code < 4 ? 0 : (code - 2) / 2;
            for (int extra : new int[] {0, (1 << more) - 1}) {
                if (code > 3) {
                    distance(base + extra, code, extra, more);
                }
            }
            base += 1 << more;
        }
        Check.due("the largest distance and 1", base, 32769);
    }

    /** Of RGBA with 16 bits, which has room for the largest ones in one row. */
    private static void distance(int distance, int code, int extra, int more) {
        int before = 1;
        while ((before + distance + 3) % 8 != 1) {
            before++;
        }
        Desks.Bits bits = block(1, 1);
        zeros(bits, before);
        for (int v = 7; v <= 9; v++) {
            bits.code(fixedCode(v));
        }
        zeros(bits, distance - 3);
        bits.code(fixedCode(257)).code(word(code, 5)).number(extra, more).code(fixedCode(256));
        int[] row = new int[before + distance + 3];
        for (int k = 0; k < 3; k++) {
            row[before + k] = 7 + k;
            row[before + distance + k] = 7 + k;
        }
        int[] due = new int[row.length / 8];
        for (int k = 0; k < due.length; k++) {
            int at = 1 + 8 * k;
            due[k] = row[at] << 24 | row[at + 2] << 16 | row[at + 4] << 8 | row[at + 6];
        }
        byte[] data = Pngs.data(Pngs.zlibRound(bits.bytes(), Desks.bytes(row)));
        byte[] file = Pngs.file(Pngs.header(due.length, 1, 16, 6, 0), data);
        Desks.reads("distance " + distance, file, 0, due.length, due);
    }

    private static void zeros(Desks.Bits bits, int n) {
        int left = n;
        if (left > 0) {
            bits.code(fixedCode(0));
            left--;
        }
        for (; left >= 258; left -= 258) {
            bits.code(fixedCode(285)).code("00000");
        }
        for (; left > 0; left--) {
            bits.code(fixedCode(0));
        }
    }

    /** The three numbers, the lengths of the codes for lengths, and no more. */
    private static Desks.Bits dynamicHead(int literals, int distances, int... lengthsOfLengths) {
        int most = 4;
        for (int k = 0; k < 19; k++) {
            if (lengthsOfLengths[ORDER[k]] > 0) {
                most = Math.max(most, k + 1);
            }
        }
        Desks.Bits bits = block(1, 2).number(literals - 257, 5).number(distances - 1, 5).number(most - 4, 4);
        for (int k = 0; k < most; k++) {
            bits.number(lengthsOfLengths[ORDER[k]], 3);
        }
        return bits;
    }

    /** All of 0 .. 15 have codes of four bits, so each length is written as itself. */
    private static final int[] PLAIN = {4, 4, 4, 4, 4, 4, 4, 4, 4, 4, 4, 4, 4, 4, 4, 4, 0, 0, 0};

    private static Desks.Bits plainHead(int[] literalLengths, int[] distanceLengths) {
        Desks.Bits bits = dynamicHead(literalLengths.length, distanceLengths.length, PLAIN);
        for (int length : literalLengths) {
            bits.code(word(length, 4));
        }
        for (int length : distanceLengths) {
            bits.code(word(length, 4));
        }
        return bits;
    }

    private static int[] lengths(int n, int... meaningsAndLengths) {
        int[] made = new int[n];
        for (int k = 0; k < meaningsAndLengths.length; k += 2) {
            made[meaningsAndLengths[k]] = meaningsAndLengths[k + 1];
        }
        return made;
    }

    private static void dynamic() {
        // Codes: 256 is 0, 0 is 10, 5 is 110, 257 is 111.
        int[] literals = lengths(258, 0, 2, 5, 3, 256, 1, 257, 3);
        gives("no distances", plainHead(literals, lengths(1)).code("10").code("110").code("0"), 0, 5);
        gives("one distance of one bit",
                plainHead(literals, lengths(1, 0, 1)).code("10").code("110").code("111").code("0").code("0"), 0, 5, 5, 5, 5);
        gives("one distance of one bit, another one",
                plainHead(literals, lengths(2, 1, 1)).code("10").code("110").code("110").code("111").code("0").code("0"),
                0, 5, 5, 5, 5, 5);
        broken("a distance where there is none",
                plainHead(literals, lengths(1)).code("10").code("110").code("111").code("0").code("0").number(0, 30),
                0, 5, 5, 5, 5);
        broken("the bit that is no distance",
                plainHead(literals, lengths(1, 0, 1)).code("10").code("110").code("111").code("1").code("0").number(0, 30),
                0, 5, 5, 5, 5);
        broken("one distance of two bits",
                plainHead(literals, lengths(1, 0, 2)).code("10").code("110").code("0"), 0, 5);
        broken("two distances, words left",
                plainHead(literals, lengths(2, 0, 1, 1, 2)).code("10").code("110").code("0"), 0, 5);
        broken("three distances of one bit",
                plainHead(literals, lengths(3, 0, 1, 1, 1, 2, 1)).code("10").code("110").code("0"), 0, 5);
        gives("30 distances", plainHead(literals, lengths(30, 0, 1, 29, 1)).code("10").code("110").code("0"), 0, 5);
        gives("286 literals", plainHead(lengths(286, 0, 2, 5, 3, 256, 1, 285, 3), lengths(1)).code("10").code("110").code("0"),
                0, 5);
        broken("287 literals",
                plainHead(lengths(287, 0, 2, 5, 3, 256, 1, 285, 3), lengths(1)).code("10").code("110").code("0"), 0, 5);
        broken("31 distances", plainHead(literals, lengths(31, 0, 1, 29, 1)).code("10").code("110").code("0"), 0, 5);
        gives("codes of 15 bits", longCodes(), 0, 5);
    }

    /** 256 is 0, 0 is 10, then one code for each length, 5 the last one of 15 bits. */
    private static Desks.Bits longCodes() {
        int[] literals = lengths(257, 256, 1, 0, 2, 5, 15, 4, 15);
        for (int length = 3; length <= 14; length++) {
            literals[length + 100] = length;
        }
        return plainHead(literals, lengths(1)).code("10").code("1".repeat(15)).code("0");
    }

    private static void dynamicLengths() {
        // Codes for lengths: 0 is 00, 1 is 01, 2 is 10, 16 is 110, 17 is 1110, 18 is 1111.
        int[] some = lengths(19, 0, 2, 1, 2, 2, 2, 16, 3, 17, 4, 18, 4);
        // 0 and 1 have lengths 2 2, 256 has length 1, and one distance.
        gives("lengths 17 and 18", dynamicHead(257, 1, some).code("10").code("10")
                .code("1111").number(127, 7).code("1111").number(99, 7).code("1110").number(3, 3)
                .code("01").code("00").code("10").code("11").code("0"), 0, 1);
        gives("length 16 over both rows", dynamicHead(258, 4, some).code("10").code("10")
                .code("1111").number(127, 7).code("1111").number(105, 7)
                .code("10").code("110").number(2, 2).code("00").code("01").code("10"), 0, 1);
        broken("16 at the beginning", dynamicHead(257, 1, some).code("110").number(0, 2)
                .code("1111").number(127, 7).code("1111").number(99, 7)
                .code("01").code("00").code("10").code("11").code("0").number(0, 30), 0, 1);
        broken("18 beyond the end", dynamicHead(257, 1, some).code("10").code("10")
                .code("1111").number(127, 7).code("1111").number(99, 7).code("1110").number(3, 3)
                .code("01").code("1111").number(0, 7).code("10").code("11").code("0"), 0, 1);
        broken("17 beyond the end", dynamicHead(257, 1, some).code("10").code("10")
                .code("1111").number(127, 7).code("1111").number(99, 7).code("1110").number(3, 3)
                .code("01").code("1110").number(0, 3).code("10").code("11").code("0"), 0, 1);
        broken("16 beyond the end", dynamicHead(257, 1, some).code("10").code("10")
                .code("1111").number(127, 7).code("1111").number(99, 7).code("1110").number(3, 3)
                .code("01").code("110").number(0, 2).code("10").code("11").code("0"), 0, 1);
    }

    private static void dynamicCodes() {
        Desks.Bits bits = plainHead(lengths(257, 0, 1, 5, 1), lengths(1)).code("0").code("1");
        broken("256 has no code", bits, 0, 5);
        broken("words of literals left",
                plainHead(lengths(257, 0, 2, 5, 3, 256, 1), lengths(1)).code("10").code("110").code("0"), 0, 5);
        broken("too many literals",
                plainHead(lengths(257, 0, 1, 5, 1, 256, 1), lengths(1)).code("0").code("1").code("0").number(0, 30), 0, 5);
        broken("one literal of one bit", plainHead(lengths(257, 256, 1), lengths(1)).code("0").number(0, 30), 0, 5);
        int[] one = lengths(19, 1, 1);
        broken("one code for lengths", dynamicHead(257, 1, one).number(0, 300), 0, 5);
        broken("no codes for lengths", dynamicHead(257, 1, new int[19]).number(0, 300), 0, 5);
        broken("too many codes for lengths",
                dynamicHead(257, 1, lengths(19, 0, 1, 1, 1, 2, 1)).number(0, 300), 0, 5);
    }

    /** Files with a bit turned are given, or refused, as java.util.zip does; ADLER is made right for what it gives. */
    private static void againstTheLibrary() {
        Random random = new Random(20261115);
        int given = 0;
        for (int round = 0; round < 6000; round++) {
            byte[] rows = new byte[1 + random.nextInt(300)];
            for (int k = 1; k < rows.length; k++) {
                rows[k] = (byte) (random.nextInt(4) == 0 ? random.nextInt(256) : random.nextInt(3));
            }
            byte[] zlib = Pngs.zlib(rows, 1 + random.nextInt(9), random.nextInt(3));
            byte[] deflate = java.util.Arrays.copyOfRange(zlib, 2, zlib.length - 4);
            for (int turns = random.nextInt(3); turns > 0; turns--) {
                int bit = random.nextInt(Math.min(deflate.length, random.nextBoolean() ? 20 : 400) * 8);
                deflate[bit / 8] ^= (byte) (1 << bit % 8);
            }
            byte[] gives = inflated(deflate);
            if (gives == null || gives.length < 2 || gives[0] < 0 || gives[0] > 4) {
                byte[] file = png(Pngs.zlibRound(deflate, rows), Math.max(1, rows.length - 1));
                Desks.refuses("round " + round, Desks.BROKEN, file);
                continue;
            }
            given++;
            PictureDesk desk = new PictureDesk();
            Desks.load(desk, png(Pngs.zlibRound(deflate, gives), gives.length - 1));
            Check.answers("round " + round, 0, () -> desk.read(0));
        }
        Check.due("enough rounds gave rows", given > 1500 ? 1 : 0, 1);
    }

    private static byte[] inflated(byte[] deflate) {
        Inflater inflater = new Inflater(true);
        inflater.setInput(deflate);
        byte[] room = new byte[16385];
        try {
            int n = inflater.inflate(room);
            boolean isWhole = inflater.finished() && inflater.getRemaining() == 0;
            return isWhole ? java.util.Arrays.copyOf(room, n) : null;
        } catch (DataFormatException e) {
            return null;
        } finally {
            inflater.end();
        }
    }
}
