import java.util.ArrayList;
import java.util.Arrays;
import java.util.List;

/** What "Terms" says of LZW, which is the data of GIF files. */
public final class LzwSentencesTest {
    public static void main(String[] args) {
        indices();
        beginning();
        end();
        rows();
        mostRows();
        noRow();
        bits();
        justAsMany();
        interlace();
        Check.finish();
    }

    private static void indices() {
        Check.sentence("codes of bits, the lowest first, m + 1 bits at first: below 2^m an index");
        byte[] table = new byte[768];
        for (int k = 0; k < 256; k++) {
            table[3 * k] = (byte) k;
        }
        for (int m = 2; m <= 8; m++) {
            int most = (1 << m) - 1;
            byte[] lzw = new Desks.Bits().number(most, m + 1).number(1 << m, m + 1).number(most - 1, m + 1)
                    .number((1 << m) + 1, m + 1).bytes();
            byte[] file = Desks.join(Gifs.head(2, 1, 135, table), Gifs.image(2, 1, m, lzw), Gifs.END);
            Desks.reads("the largest indices, m " + m, file, 1, 2, most << 24 | 255, most - 1 << 24 | 255);
        }
        byte[] byHand = Desks.bytes(0b10_001_100, 0b0000_101_0);
        Desks.reads("4 1 2 5 by hand", Gifs.file(2, 1, Gifs.image(2, 1, 2, byHand)), 1, 2, Gifs.colours(1, 2));
    }

    private static void beginning() {
        Check.sentence("2^m: all begins anew (codes of m + 1 bits, no rows)");
        Gifs.lzwGives("at first", 2, new int[] {4, 1, 2, 5}, 1, 2);
        Gifs.lzwGives("not at first", 2, new int[] {1, 2, 5}, 1, 2);
        Gifs.lzwGives("many", 2, new int[] {4, 4, 4, 1, 4, 2, 4, 4, 3, 4, 5}, 1, 2, 3);
        Gifs.lzwGives("behind more bits", 2, new int[] {4, 1, 2, 3, 0, 1, 4, 2, 3, 4, 1, 5}, 1, 2, 3, 0, 1, 2, 3, 1);
        Gifs.lzwGives("rows anew", 2, new int[] {4, 1, 2, 6, 4, 3, 0, 6, 5}, 1, 2, 1, 2, 3, 0, 3, 0);
        Gifs.lzwBroken("a row of before", 6, 2, 4, 1, 2, 0, 4, 3, 7, 5);
        Gifs.lzwBroken("a row at once", 4, 2, 4, 1, 2, 4, 6, 5);
        // Nine codes of three to five bits, then one of five that begins anew.
        List<Integer> codes = new ArrayList<>(List.of(4));
        for (int k = 0; k < 20; k++) {
            codes.add(k % 4);
        }
        codes.addAll(List.of(4, 1, 5));
        int[] due = new int[21];
        for (int k = 0; k < 20; k++) {
            due[k] = k % 4;
        }
        due[20] = 1;
        Gifs.lzwGives("behind five bits", 2, codes.stream().mapToInt(Integer::intValue).toArray(), due);
    }

    private static void end() {
        Check.sentence("2^m + 1: the end (what is left of that byte, and bytes behind, count for nothing;"
                + " without it: BROKEN)");
        byte[] whole = Gifs.codes(2, 4, 1, 2, 5);
        int[] due = Gifs.colours(1, 2);
        for (int k = 0; k < 16; k++) {
            byte[] lzw = new Desks.Bits().number(4, 3).number(1, 3).number(2, 3).number(5, 3).number(k, 4).bytes();
            Desks.reads("bits " + k + " left", Gifs.file(2, 1, Gifs.image(2, 1, 2, lzw)), 1, 2, due);
        }
        for (int n : new int[] {1, 2, 253, 254, 1000}) {
            byte[] more = new byte[n];
            Arrays.fill(more, (byte) 0x49);
            byte[] lzw = Desks.join(whole, more);
            Desks.reads(n + " bytes behind", Gifs.file(2, 1, Gifs.image(2, 1, 2, lzw)), 1, 2, due);
        }
        Gifs.lzwBroken("none", 2, 2, 4, 1, 2);
        byte[] half = new Desks.Bits().number(4, 3).number(1, 3).number(1, 2).bytes();
        Desks.refuses("two bits of it", Desks.BROKEN, Gifs.file(1, 1, Gifs.image(1, 1, 2, half)));
        // The next row's number is 8 then, so the end has four bits, the last ones of two bytes.
        byte[] four = new Desks.Bits().number(4, 3).number(1, 3).number(2, 3).number(3, 3).number(5, 4).bytes();
        Desks.reads("in four bits", Gifs.file(3, 1, Gifs.image(3, 1, 2, four)), 1, 3, Gifs.colours(1, 2, 3));
        // Of one byte there are two codes, so the second one is the end, or there is none.
        for (int v = 0; v < 256; v++) {
            byte[] file = Gifs.file(1, 1, Gifs.image(1, 1, 2, Desks.bytes(v)));
            if (v % 8 < 4 && v / 8 % 8 == 5) {
                Desks.reads("one byte " + v, file, 1, 1, Gifs.COLOURS[v % 8]);
            } else {
                Desks.refuses("one byte " + v, Desks.BROKEN, file);
            }
        }
        Gifs.lzwBroken("alone", 1, 2, 5);
        Gifs.lzwBroken("behind a beginning alone", 1, 2, 4, 5);
    }

    private static void rows() {
        Check.sentence("behind each code but the first behind a beginning there is a new row: that of the code before,"
                + " and the first index of this one (that row may be this one itself)");
        Gifs.lzwGives("a row of two", 2, new int[] {4, 1, 2, 6, 5}, 1, 2, 1, 2);
        Gifs.lzwGives("this one itself", 2, new int[] {4, 1, 6, 5}, 1, 1, 1);
        Gifs.lzwGives("this one itself, again", 2, new int[] {4, 1, 6, 7, 8, 5}, 1, 1, 1, 1, 1, 1, 1, 1, 1, 1);
        Gifs.lzwGives("this one itself, of two", 2, new int[] {4, 1, 2, 6, 8, 5}, 1, 2, 1, 2, 1, 2, 1);
        Gifs.lzwGives("a row of a row", 2, new int[] {4, 1, 2, 6, 0, 8, 5}, 1, 2, 1, 2, 0, 1, 2, 0);
        Gifs.lzwGives("a row and an index", 2, new int[] {4, 1, 2, 6, 3, 8, 7, 5}, 1, 2, 1, 2, 3, 1, 2, 3, 2, 1);
        Gifs.lzwGives("without a beginning", 2, new int[] {1, 6, 5}, 1, 1, 1);
        Gifs.lzwGives("behind a second beginning", 2, new int[] {4, 1, 2, 4, 3, 6, 5}, 1, 2, 3, 3, 3);
    }

    /** A beginning, so many indices, one code each, and then these codes. */
    private static byte[] filled(int m, int singles, int... codes) {
        int[] all = new int[1 + singles + codes.length];
        all[0] = 1 << m;
        for (int k = 0; k < singles; k++) {
            all[1 + k] = k % 3;
        }
        System.arraycopy(codes, 0, all, 1 + singles, codes.length);
        return Gifs.codes(m, all);
    }

    private static byte[] row(int width, int m, byte[] lzw) {
        return Desks.join(Gifs.head(width, 1, 129, Gifs.FOUR), Gifs.image(width, 1, m, lzw), Gifs.END);
    }

    private static int[] singles(int n, int... more) {
        int[] due = new int[n + more.length];
        for (int k = 0; k < n; k++) {
            due[k] = Gifs.COLOURS[k % 3];
        }
        for (int k = 0; k < more.length; k++) {
            due[n + k] = Gifs.COLOURS[more[k]];
        }
        return due;
    }

    private static void mostRows() {
        Check.sentence("4096 in all, then no new ones");
        for (int m : new int[] {2, 5, 8}) {
            // Of n codes the last but one's row has the number first + n - 2.
            int first = (1 << m) + 2;
            int full = 4095 - first + 2;
            int end = (1 << m) + 1;
            int last = (full - 2) % 3;
            int next = (full - 1) % 3;
            Desks.reads("row 4095, m " + m, row(full + 2, m, filled(m, full, 4095, end)), 1, full + 2, singles(full, last, next));
            Desks.reads("row 4095 that is this one itself, m " + m, row(full + 1, m, filled(m, full - 1, 4095, end)),
                    1, full + 1, singles(full - 1, last, last));
            Desks.refuses("row 4095 before it is there, m " + m, Desks.BROKEN, row(full, m, filled(m, full - 2, 4095, end)));
            // Were there a new row behind each of these, it would be another one's number.
            int[] due = singles(full, last, next, 3, 3, last, next);
            Desks.reads("no row behind 4095, m " + m, row(full + 6, m, filled(m, full, 4095, 3, 3, 4095, end)), 1, full + 6, due);
            int[] anew = singles(full, 3, 3, 3, 3);
            Desks.reads("a beginning behind 4095, m " + m,
                    row(full + 4, m, filled(m, full, 3, 1 << m, 3, first, end)), 1, full + 4, anew);
        }
        Desks.reads("16384 codes", row(16384, 2, filled(2, 16384, 5)), 1, 16384, singles(16384));
    }

    private static void noRow() {
        Check.sentence("A code that is no row yet: BROKEN; also if the first one behind a beginning is a row.");
        Gifs.lzwGives("the next row", 2, new int[] {4, 1, 6, 5}, 1, 1, 1);
        Gifs.lzwBroken("the one behind the next row", 3, 2, 4, 1, 7, 5);
        Gifs.lzwBroken("a later one", 5, 2, 4, 1, 2, 3, 12, 5);
        Gifs.lzwGives("the next row later", 2, new int[] {4, 1, 2, 3, 8, 5}, 1, 2, 3, 3, 3);
        Gifs.lzwBroken("the one behind the next row later", 5, 2, 4, 1, 2, 3, 9, 5);
        Gifs.lzwBroken("the first code of all", 1, 2, 6, 5);
        Gifs.lzwBroken("the last number as the first code", 1, 2, 7, 5);
        Gifs.lzwBroken("behind the first beginning", 1, 2, 4, 6, 5);
        Gifs.lzwBroken("behind another beginning", 4, 2, 4, 1, 2, 4, 6, 5);
        Gifs.lzwBroken("behind two beginnings", 2, 2, 4, 1, 4, 4, 6, 5);
        Gifs.lzwBroken("of 8 bits", 2, 8, 256, 1, 259, 257);
        Gifs.lzwBroken("of 8 bits, the first", 2, 8, 256, 258, 257);
    }

    private static void bits() {
        Check.sentence("If the next row's number is 2^(bits), bits is one more, up to 12.");
        for (int m = 2; m <= 8; m++) {
            int first = (1 << m) + 2;
            int end = (1 << m) + 1;
            for (int bits = m + 1; bits <= 12; bits++) {
                // Behind n codes the next row's number is first + n - 1.
                int n = (1 << bits) - first + 1;
                for (int codes = n - 1; codes <= n + 1; codes++) {
                    Desks.Bits written = new Desks.Bits().number(1 << m, m + 1);
                    for (int k = 0; k < codes; k++) {
                        written.number(k % 3, bitsOf(m, first + Math.max(0, k - 1)));
                    }
                    written.number(end, bitsOf(m, first + codes - 1));
                    Desks.reads("m " + m + ", " + bits + " bits, codes " + codes, row(codes, m, written.bytes()), 1, codes,
                            singles(codes));
                }
            }
        }
    }

    /** By the words alone: from m + 1 on, one more each time the next row's number has come to 2^(bits). */
    private static int bitsOf(int m, int nextRow) {
        int bits = m + 1;
        for (int number = 0; number <= nextRow; number++) {
            if (number == 1 << bits && bits < 12) {
                bits++;
            }
        }
        return bits;
    }

    private static void justAsMany() {
        Check.sentence("Just as many indices as the image has POINTS, row by row");
        Gifs.lzwBroken("one less", 3, 2, 4, 1, 2, 5);
        Gifs.lzwBroken("one more", 1, 2, 4, 1, 2, 5);
        Gifs.lzwBroken("one more by a row", 3, 2, 4, 1, 2, 6, 5);
        Gifs.lzwBroken("one more by this row itself", 2, 2, 4, 1, 6, 5);
        Gifs.lzwBroken("one less by a row", 5, 2, 4, 1, 2, 6, 5);
        Gifs.lzwBroken("none", 1, 2, 4, 5);
        Gifs.lzwBroken("enough, and no end but more", 1, 2, 4, 1, 1, 1, 1, 1, 1, 1);
        mostPoints();
        byte[] lzw = Gifs.codes(2, 4, 0, 1, 2, 3, 1, 0, 5);
        Desks.reads("three rows", Gifs.file(2, 3, Gifs.image(2, 3, 2, lzw)), 1, 2, Gifs.colours(0, 1, 2, 3, 1, 0));
        Desks.reads("two rows", Gifs.file(3, 2, Gifs.image(3, 2, 2, lzw)), 1, 3, Gifs.colours(0, 1, 2, 3, 1, 0));
        Desks.refuses("the IMAGE's size, not the image's", Desks.BROKEN, Gifs.file(3, 3, Gifs.image(3, 3, 2, lzw)));
    }

    /** As many as an IMAGE can have, and one more: there is no room for that one anywhere. */
    private static void mostPoints() {
        for (int flags : new int[] {0, 64}) {
            for (int[] size : new int[][] {{16384, 1}, {1, 16384}, {128, 128}}) {
                byte[] lzw = filled(2, 16383, 3, 5);
                byte[] image = Gifs.image(0, 0, size[0], size[1], flags, Gifs.NONE, 2, lzw);
                PictureDesk desk = new PictureDesk();
                Desks.load(desk, Gifs.file(size[0], size[1], image));
                Check.answers("16384, flags " + flags, 1, () -> desk.read(0));
                Check.due("the last point", desk.get(0, size[0] - 1, size[1] - 1), Gifs.COLOURS[3]);
                byte[] more = Gifs.image(0, 0, size[0], size[1], flags, Gifs.NONE, 2, filled(2, 16384, 3, 5));
                Desks.refuses("16385, flags " + flags, Desks.BROKEN, Gifs.file(size[0], size[1], more));
                byte[] byRow = Gifs.image(0, 0, size[0], size[1], flags, Gifs.NONE, 2, filled(2, 16383, 6, 5));
                Desks.refuses("16385 by a row, flags " + flags, Desks.BROKEN, Gifs.file(size[0], size[1], byRow));
                byte[] less = Gifs.image(0, 0, size[0], size[1], flags, Gifs.NONE, 2, filled(2, 16383, 5));
                Desks.refuses("16383, flags " + flags, Desks.BROKEN, Gifs.file(size[0], size[1], less));
            }
        }
    }

    private static void interlace() {
        Check.sentence("with flags 64 rows 0, 8, ..; 4, 12, ..; 2, 6, ..; 1, 3, ...");
        for (int height = 1; height <= 18; height++) {
            int[] codes = new int[2 + 2 * height];
            codes[0] = 256;
            codes[codes.length - 1] = 257;
            byte[] table = new byte[768];
            int[] due = new int[3 * height];
            int k = 0;
            for (int[] pass : new int[][] {{0, 8}, {4, 8}, {2, 4}, {1, 2}}) {
                for (int y = pass[0]; y < height; y += pass[1]) {
                    for (int x = 1; x <= 2; x++) {
                        codes[1 + k] = k;
                        table[3 * k] = (byte) (k + 1);
                        due[3 * y + x] = k + 1 << 24 | 255;
                        k++;
                    }
                }
            }
            byte[] image = Gifs.image(1, 0, 2, height, 64, Gifs.NONE, 8, Gifs.codes(8, codes));
            Desks.reads("height " + height, Desks.join(Gifs.head(3, height, 135, table), image, Gifs.END), 1, 3, due);
        }
    }
}
