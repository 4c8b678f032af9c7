import java.io.ByteArrayOutputStream;
import java.util.Arrays;
import java.util.HashMap;
import java.util.Map;
import java.util.Random;

/** Promise 6, GIF: its blocks, tables, interlace, transparency and LZW. */
public final class GifReadTest {
    private static final byte[] FOUR = Desks.bytes(1, 2, 3, 4, 5, 6, 7, 8, 9, 10, 11, 12);
    private static final int[] COLOURS = {0x010203FF, 0x040506FF, 0x070809FF, 0x0A0B0CFF};
    private static final byte[] END = Desks.bytes(59);
    private static final byte[] DOT = image(0, 0, 1, 1, 0, new byte[0], 2, codes(2, 4, 1, 5));

    public static void main(String[] args) {
        head();
        size();
        extensions();
        transparency();
        images();
        tables();
        interlace();
        subs();
        lzw();
        fullTable();
        manyImages();
        Check.finish();
    }

    private static byte[] head(int width, int height, int flags, byte[] table) {
        return Desks.join("GIF89a".getBytes(), Desks.little2(width), Desks.little2(height), Desks.bytes(flags, 3, 4), table);
    }

    /** A screen of that size with four colours, these blocks, and the end. */
    private static byte[] file(int width, int height, byte[]... blocks) {
        return Desks.join(head(width, height, 129, FOUR), Desks.join(blocks), END);
    }

    private static byte[] image(int left, int top, int width, int height, int flags, byte[] table, int m, byte[] lzw) {
        return Desks.join(Desks.bytes(44), Desks.little2(left), Desks.little2(top), Desks.little2(width),
                Desks.little2(height), Desks.bytes(flags), table, Desks.bytes(m), subs(lzw, 255));
    }

    private static byte[] subs(byte[] data, int most) {
        ByteArrayOutputStream made = new ByteArrayOutputStream();
        for (int at = 0; at < data.length; at += most) {
            int n = Math.min(most, data.length - at);
            made.write(n);
            made.write(data, at, n);
        }
        made.write(0);
        return made.toByteArray();
    }

    /** Codes in the bits that are due for each: rows are counted from each beginning on. */
    private static byte[] codes(int m, int... codes) {
        Desks.Bits bits = new Desks.Bits();
        int n = m + 1;
        int behindBeginning = 0;
        for (int code : codes) {
            bits.number(code, n);
            behindBeginning = code == 1 << m ? 0 : behindBeginning + 1;
            int next = (1 << m) + 2 + Math.max(0, behindBeginning - 1);
            n = m + 1;
            while (n < 12 && next >= 1 << n) {
                n++;
            }
        }
        return bits.bytes();
    }

    /** A writer of its own, with a map of texts; with restarts it begins anew at 4096 rows, else it goes on. */
    private static byte[] packed(int m, int[] indices, boolean restarts) {
        java.util.List<Integer> codes = new java.util.ArrayList<>();
        Map<String, Integer> rows = new HashMap<>();
        codes.add(1 << m);
        int at = 0;
        int next = (1 << m) + 2;
        while (at < indices.length) {
            String text = "" + (char) indices[at];
            int code = indices[at];
            at++;
            while (at < indices.length && rows.containsKey(text + (char) indices[at])) {
                text += (char) indices[at];
                code = rows.get(text);
                at++;
            }
            codes.add(code);
            if (at < indices.length && next < 4096) {
                rows.put(text + (char) indices[at], next);
                next++;
            } else if (next == 4096 && restarts) {
                codes.add(1 << m);
                rows.clear();
                next = (1 << m) + 2;
            }
        }
        codes.add((1 << m) + 1);
        return codes(m, codes.stream().mapToInt(Integer::intValue).toArray());
    }

    private static void head() {
        byte[] good = file(1, 1, DOT);
        Desks.reads("GIF89a", good, 1, 1, COLOURS[1]);
        Desks.reads("GIF87a", Desks.with(good, 4, '7'), 1, 1, COLOURS[1]);
        Desks.refuses("GIF88a", Desks.BROKEN, Desks.with(good, 4, '8'));
        Desks.refuses("GIF89b", Desks.BROKEN, Desks.with(good, 5, 'b'));
        Desks.refuses("GIF99a", Desks.BROKEN, Desks.with(good, 3, '9'));
        Desks.refuses("GiF89a", Desks.BROKEN, Desks.with(good, 1, 'i'));
        for (int n = 1; n < good.length; n++) {
            Desks.refuses("the first " + n + " bytes", Desks.BROKEN, Arrays.copyOf(good, n));
        }
        Desks.refuses("a byte behind the end", Desks.BROKEN, Desks.join(good, Desks.bytes(59)));
        for (int mark : new int[] {0, 1, 32, 43, 45, 58, 255}) {
            Desks.refuses("mark " + mark, Desks.BROKEN, Desks.with(good, good.length - 1, mark));
        }
        Desks.refuses("no image", Desks.BROKEN, file(1, 1));
    }

    private static void size() {
        Desks.reads("16384 x 1", file(16384, 1, DOT), 1, 16384, wide());
        Desks.refuses("16385 x 1", Desks.TOO_LARGE, file(16385, 1, DOT));
        Desks.refuses("128 x 129", Desks.TOO_LARGE, file(128, 129, DOT));
        Desks.refuses("65535 x 65535", Desks.TOO_LARGE, file(65535, 65535));
        byte[] tooLarge = file(200, 200, DOT);
        Desks.refuses("too large, ten bytes", Desks.TOO_LARGE, Arrays.copyOf(tooLarge, 10));
        Desks.refuses("too large, nine bytes", Desks.BROKEN, Arrays.copyOf(tooLarge, 9));
        Desks.refuses("too large, GIF88a", Desks.BROKEN, Desks.with(tooLarge, 4, '8'));
        Desks.refuses("width 0", Desks.BROKEN, file(0, 1, DOT));
        Desks.refuses("height 0", Desks.BROKEN, file(1, 0, DOT));
        Desks.refuses("width 0, height 65535", Desks.BROKEN, file(0, 65535, DOT));
    }

    private static int[] wide() {
        int[] due = new int[16384];
        due[0] = COLOURS[1];
        return due;
    }

    private static byte[] extension(int label, int... rest) {
        return Desks.join(Desks.bytes(33, label), Desks.bytes(rest));
    }

    private static void extensions() {
        byte[] text = extension(254, 3, 1, 2, 3, 1, 9, 0);
        byte[] empty = extension(254, 0);
        Desks.reads("extensions", file(1, 1, text, empty, extension(0, 1, 1, 0), DOT, text), 1, 1, COLOURS[1]);
        Desks.refuses("an extension without its end", Desks.BROKEN,
                Desks.join(head(1, 1, 129, FOUR), DOT, extension(254, 3, 1, 2, 3)));
        Desks.refuses("249 of 3 bytes", Desks.BROKEN, file(1, 1, extension(249, 3, 1, 0, 0, 0), DOT));
        Desks.refuses("249 of 5 bytes", Desks.BROKEN, file(1, 1, extension(249, 5, 1, 0, 0, 0, 0, 0), DOT));
        Desks.refuses("249 of none", Desks.BROKEN, file(1, 1, extension(249, 0), DOT));
        Desks.refuses("249 of two", Desks.BROKEN, file(1, 1, extension(249, 4, 1, 0, 0, 1, 1, 7, 0), DOT));
        Desks.refuses("249 of two behind the image", Desks.BROKEN,
                file(1, 1, DOT, extension(249, 4, 1, 0, 0, 1, 1, 7, 0)));
    }

    private static void transparency() {
        byte[] clear1 = extension(249, 4, 1, 7, 7, 1, 0);
        Desks.reads("transparent", file(1, 1, clear1, DOT), 1, 1, COLOURS[1] & ~255);
        Desks.reads("transparent, all flags", file(1, 1, extension(249, 4, 255, 7, 7, 1, 0), DOT), 1, 1, COLOURS[1] & ~255);
        Desks.reads("another index", file(1, 1, extension(249, 4, 1, 7, 7, 2, 0), DOT), 1, 1, COLOURS[1]);
        Desks.reads("an index beyond the table", file(1, 1, extension(249, 4, 1, 7, 7, 200, 0), DOT), 1, 1, COLOURS[1]);
        Desks.reads("flags even", file(1, 1, extension(249, 4, 254, 7, 7, 1, 0), DOT), 1, 1, COLOURS[1]);
        Desks.reads("another extension between", file(1, 1, clear1, extension(254, 0), DOT), 1, 1, COLOURS[1] & ~255);
        Desks.reads("behind the image", file(1, 1, DOT, clear1), 1, 1, COLOURS[1]);
        Desks.reads("the rest is 0", file(2, 2, clear1, image(1, 1, 1, 1, 0, new byte[0], 2, codes(2, 4, 1, 5))), 1, 2,
                0, 0, 0, COLOURS[1] & ~255);
    }

    private static void images() {
        byte[] lzw = codes(2, 4, 0, 1, 2, 3, 0, 1, 5);
        byte[] none = new byte[0];
        Desks.reads("within", file(4, 3, image(1, 1, 3, 2, 0, none, 2, lzw)), 1, 4,
                0, 0, 0, 0, 0, COLOURS[0], COLOURS[1], COLOURS[2], 0, COLOURS[3], COLOURS[0], COLOURS[1]);
        int[][] places = {{2, 1, 3, 2}, {1, 2, 3, 2}, {0, 0, 5, 1}, {0, 0, 1, 4}, {0, 0, 0, 1}, {0, 0, 1, 0}, {4, 0, 1, 1},
            {65535, 0, 1, 1}, {0, 65535, 1, 1}, {0, 0, 65535, 65535}};
        for (int[] p : places) {
            byte[] outside = image(p[0], p[1], p[2], p[3], 0, none, 2, lzw);
            Desks.refuses("place " + Arrays.toString(p), Desks.BROKEN, file(4, 3, outside));
            Desks.refuses("second at " + Arrays.toString(p), Desks.BROKEN, file(4, 3, DOT, outside));
        }
        for (int m : new int[] {0, 1, 9, 255}) {
            Desks.refuses("m " + m, Desks.BROKEN, file(1, 1, image(0, 0, 1, 1, 0, none, m, codes(2, 4, 1, 5))));
            Desks.refuses("second with m " + m, Desks.BROKEN, file(1, 1, DOT, image(0, 0, 1, 1, 0, none, m, none)));
        }
        for (int m = 2; m <= 8; m++) {
            byte[] dot = image(0, 0, 1, 1, 0, none, m, codes(m, 1 << m, 1, (1 << m) + 1));
            Desks.reads("m " + m, file(1, 1, dot), 1, 1, COLOURS[1]);
        }
        byte[] second = image(0, 0, 1, 1, 0, none, 2, Desks.bytes(255, 255));
        Desks.reads("the second image's LZW is not looked at", file(1, 1, DOT, second), 1, 1, COLOURS[1]);
        Desks.reads("a second image without LZW", file(1, 1, DOT, image(0, 0, 1, 1, 0, none, 8, none)), 1, 1, COLOURS[1]);
        byte[] other = Desks.bytes(9, 9, 9, 9, 9, 9);
        Desks.reads("a second image with a table", file(1, 1, DOT, image(0, 0, 1, 1, 128, other, 2, none)), 1, 1, COLOURS[1]);
        Desks.refuses("a second image with half a table", Desks.BROKEN,
                Desks.join(head(1, 1, 129, FOUR), DOT, Desks.bytes(44, 0, 0, 0, 0, 1, 0, 1, 0, 135, 1, 2, 3)));
        Desks.refuses("a second image that ends the file", Desks.BROKEN,
                Desks.join(head(1, 1, 129, FOUR), DOT, second));
    }

    private static void tables() {
        byte[] other = Desks.bytes(9, 9, 9, 8, 8, 8);
        byte[] none = new byte[0];
        byte[] lzw = codes(2, 4, 1, 5);
        Desks.reads("a table of its own", file(1, 1, image(0, 0, 1, 1, 128, other, 2, lzw)), 1, 1, 0x080808FF);
        byte[] bare = head(1, 1, 1, none);
        Desks.reads("only a table of its own", Desks.join(bare, image(0, 0, 1, 1, 128, other, 2, lzw), END), 1, 1, 0x080808FF);
        Desks.refuses("no table", Desks.BROKEN, Desks.join(bare, DOT, END));
        Desks.refuses("no table for the first image", Desks.BROKEN,
                Desks.join(bare, DOT, image(0, 0, 1, 1, 128, other, 2, lzw), END));
        Desks.reads("no table for the second image",
                Desks.join(bare, image(0, 0, 1, 1, 128, other, 2, lzw), DOT, END), 1, 1, 0x080808FF);
        Desks.refuses("an index beyond its own table", Desks.BROKEN,
                file(1, 1, image(0, 0, 1, 1, 128, other, 2, codes(2, 4, 2, 5))));
        Desks.refuses("an index beyond the table", Desks.BROKEN,
                file(1, 1, image(0, 0, 1, 1, 0, none, 3, codes(3, 8, 4, 9))));
        for (int k = 0; k < 8; k++) {
            byte[] table = new byte[3 * (2 << k)];
            new Random(k).nextBytes(table);
            int last = (2 << k) - 1;
            int colour = (table[3 * last] & 255) << 24 | (table[3 * last + 1] & 255) << 16 | (table[3 * last + 2] & 255) << 8 | 255;
            byte[] dot = image(0, 0, 1, 1, 0, none, 8, codes(8, 256, last, 257));
            Desks.reads("the last of " + (2 << k), Desks.join(head(1, 1, 128 + 112 + 8 + k, table), dot, END), 1, 1, colour);
            byte[] own = image(0, 0, 1, 1, 128 + 32 + k, table, 8, codes(8, 256, last, 257));
            Desks.reads("the last of its own " + (2 << k), file(1, 1, own), 1, 1, colour);
        }
    }

    private static void interlace() {
        for (int height = 1; height <= 20; height++) {
            int[] stored = new int[height];
            int[] due = new int[2 * height];
            int k = 0;
            for (int[] pass : new int[][] {{0, 8}, {4, 8}, {2, 4}, {1, 2}}) {
                for (int y = pass[0]; y < height; y += pass[1]) {
                    stored[k] = (k * k + k) % 4;
                    due[2 * y + 1] = COLOURS[stored[k]];
                    k++;
                }
            }
            byte[] block = image(1, 0, 1, height, 64, new byte[0], 2, packed(2, stored, true));
            Desks.reads("interlace, height " + height, file(2, height, block), 1, 2, due);
        }
    }

    private static void subs() {
        int[] indices = new int[900];
        int[] due = new int[900];
        Random random = new Random(5);
        for (int k = 0; k < 900; k++) {
            indices[k] = random.nextInt(4);
            due[k] = COLOURS[indices[k]];
        }
        byte[] lzw = packed(2, indices, true);
        byte[] before = Arrays.copyOf(image(0, 0, 30, 30, 0, new byte[0], 2, new byte[0]), 11);
        for (int most : new int[] {1, 2, 7, 254, 255}) {
            byte[] block = Desks.join(before, subs(lzw, most));
            Desks.reads("subs of " + most, file(30, 30, block, extension(254, 1, 5, 0)), 1, 30, due);
        }
        Desks.refuses("no subs", Desks.BROKEN, file(30, 30, Desks.join(before, Desks.bytes(0))));
    }

    private static void lzwGives(String what, int m, int[] codes, int... indices) {
        int[] due = new int[indices.length];
        for (int k = 0; k < due.length; k++) {
            due[k] = COLOURS[indices[k]];
        }
        byte[] block = image(0, 0, due.length, 1, 0, new byte[0], m, codes(m, codes));
        Desks.reads(what, file(due.length, 1, block), 1, due.length, due);
    }

    private static void lzwBroken(String what, int width, int m, int... codes) {
        byte[] block = image(0, 0, width, 1, 0, new byte[0], m, codes(m, codes));
        Desks.refuses(what, Desks.BROKEN, file(width, 1, block));
    }

    private static void lzw() {
        lzwGives("no beginning at first", 2, new int[] {1, 2, 5}, 1, 2);
        lzwGives("beginnings", 2, new int[] {4, 4, 1, 4, 2, 4, 4, 3, 4, 5}, 1, 2, 3);
        lzwGives("a row", 2, new int[] {4, 1, 2, 6, 5}, 1, 2, 1, 2);
        lzwGives("a row that is this one itself", 2, new int[] {4, 1, 6, 7, 5}, 1, 1, 1, 1, 1, 1);
        lzwGives("a row of a row", 2, new int[] {4, 1, 2, 6, 0, 8, 5}, 1, 2, 1, 2, 0, 1, 2, 0);
        lzwBroken("a row not there yet", 4, 2, 4, 1, 7, 5);
        lzwBroken("a row as the first code", 1, 2, 6, 5);
        lzwBroken("a row behind a beginning", 4, 2, 4, 1, 2, 4, 6, 5);
        lzwBroken("a row of before a beginning", 4, 2, 4, 1, 2, 4, 1, 7, 5);
        lzwBroken("no end", 2, 2, 4, 1, 2);
        lzwBroken("an index less", 3, 2, 4, 1, 2, 5);
        lzwBroken("an index more", 1, 2, 4, 1, 2, 5);
        lzwBroken("a row more", 3, 2, 4, 1, 2, 6, 5);
        lzwBroken("only the end", 1, 2, 5);
        byte[] none = new byte[0];
        byte[] more = Desks.join(codes(2, 4, 1, 2, 5), Desks.bytes(255, 255, 255));
        Desks.reads("bytes behind the end", file(2, 1, image(0, 0, 2, 1, 0, none, 2, more)), 1, 2, COLOURS[1], COLOURS[2]);
        byte[] left = new Desks.Bits().number(4, 3).number(1, 3).number(5, 3).number(127, 7).bytes();
        Desks.reads("bits behind the end", file(1, 1, image(0, 0, 1, 1, 0, none, 2, left)), 1, 1, COLOURS[1]);
        byte[] half = new Desks.Bits().number(4, 3).number(1, 3).number(1, 2).bytes();
        Desks.refuses("half an end", Desks.BROKEN, file(1, 1, image(0, 0, 1, 1, 0, none, 2, half)));
    }

    /** More rows than there can be, both with a beginning at 4096 and without. */
    private static void fullTable() {
        for (int m = 2; m <= 8; m++) {
            for (int run = 0; run < 2; run++) {
                Random random = new Random(m);
                byte[] table = new byte[768];
                random.nextBytes(table);
                int[] indices = new int[16384];
                int[] due = new int[16384];
                for (int k = 0; k < 16384; k++) {
                    indices[k] = random.nextInt(3) == 0 ? random.nextInt(1 << m) : k / 50 % 3;
                    int at = 3 * indices[k];
                    due[k] = (table[at] & 255) << 24 | (table[at + 1] & 255) << 16 | (table[at + 2] & 255) << 8 | 255;
                }
                byte[] block = image(0, 0, 128, 128, 0, new byte[0], m, packed(m, indices, run == 0));
                byte[] file = Desks.join(head(128, 128, 135, table), block, END);
                Desks.reads("a full table, m " + m + ", run " + run, file, 1, 128, due);
            }
        }
        int[] same = new int[16384];
        int[] due = new int[16384];
        Arrays.fill(due, COLOURS[0]);
        byte[] block = image(0, 0, 1, 16384, 64, new byte[0], 2, packed(2, same, true));
        Desks.reads("one colour", file(1, 16384, block), 1, 1, due);
    }

    private static void manyImages() {
        byte[] dot = image(0, 0, 1, 1, 0, new byte[0], 2, Desks.bytes(1));
        byte[][] blocks = new byte[600][];
        Arrays.fill(blocks, dot);
        blocks[0] = DOT;
        Desks.reads("600 images", file(1, 1, blocks), 1, 1, COLOURS[1]);
    }
}
