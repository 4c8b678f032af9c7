import java.util.Arrays;
import java.util.Random;

/** What "Terms" says of GIF files, but for LZW. */
public final class GifSentencesTest {
    private static final byte[] FILE = Gifs.file(1, 1, Gifs.DOT);
    private static final byte[] LZW = Gifs.codes(2, 4, 1, 5);
    private static final byte[] TWO = Desks.bytes(9, 9, 9, 8, 8, 8);
    private static final int CLEAR = Gifs.COLOURS[1] & ~255;

    public static void main(String[] args) {
        version();
        size();
        table();
        subs();
        oneSub();
        transparent();
        places();
        ownTable();
        leastBits();
        end();
        oneImage();
        rest();
        passedOver();
        noTable();
        Check.finish();
    }

    private static void reads(String what, int point, byte[]... blocks) {
        Desks.reads(what, Gifs.file(1, 1, blocks), 1, 1, point);
    }

    private static void broken(String what, byte[]... blocks) {
        Desks.refuses(what, Desks.BROKEN, Gifs.file(1, 1, blocks));
    }

    private static void version() {
        Check.sentence("\"GIF87a\" or \"GIF89a\"");
        Desks.reads("GIF89a", FILE, 1, 1, Gifs.COLOURS[1]);
        Desks.reads("GIF87a", Desks.with(FILE, 4, '7'), 1, 1, Gifs.COLOURS[1]);
        for (int year = '0'; year <= '9'; year++) {
            if (year != '7' && year != '9') {
                Desks.refuses("year 8" + (char) year, Desks.BROKEN, Desks.with(FILE, 4, year));
            }
        }
        for (int at = 0; at < 6; at++) {
            if (at != 4) {
                Desks.refuses("a letter more at " + at, Desks.BROKEN, Desks.with(FILE, at, FILE[at] + 1));
                Desks.refuses("a letter less at " + at, Desks.BROKEN, Desks.with(FILE, at, FILE[at] - 1));
                Desks.refuses("another case at " + at, Desks.BROKEN, Desks.with(FILE, at, FILE[at] ^ 32));
            }
        }
    }

    private static void size() {
        Check.sentence("width, height (2 each)");
        int[] due = new int[300];
        due[0] = Gifs.COLOURS[1];
        Desks.reads("300 x 1", Gifs.file(300, 1, Gifs.DOT), 1, 300, due);
        Desks.reads("1 x 300", Gifs.file(1, 300, Gifs.DOT), 1, 1, due);
        Desks.refuses("65535 x 1", Desks.TOO_LARGE, Gifs.file(65535, 1, Gifs.DOT));
        Desks.refuses("1 x 65535", Desks.TOO_LARGE, Gifs.file(1, 65535, Gifs.DOT));
        Desks.refuses("65535 x 65535", Desks.TOO_LARGE, Gifs.file(65535, 65535, Gifs.DOT));
    }

    private static byte[] tableOf(int colours) {
        byte[] table = new byte[3 * colours];
        new Random(colours).nextBytes(table);
        return table;
    }

    private static byte[] last(int flags, byte[] table, int index) {
        return Gifs.image(0, 0, 1, 1, flags, table, 8, Gifs.codes(8, 256, index, 257));
    }

    private static void table() {
        Check.sentence("with flags 128 a TABLE of 2 times 2^(flags mod 8) colours, three bytes each.");
        for (int k = 0; k < 8; k++) {
            int colours = 2 << k;
            byte[] table = tableOf(colours);
            for (int more : new int[] {0, 8, 112, 120}) {
                byte[] head = Gifs.head(1, 1, 128 + more + k, table);
                byte[] file = Desks.join(head, last(0, Gifs.NONE, colours - 1), Gifs.END);
                Desks.reads("the last of " + colours, file, 1, 1, Gifs.colour(table, colours - 1));
            }
            if (k < 7) {
                byte[] beyond = Desks.join(Gifs.head(1, 1, 128 + k, table), last(0, Gifs.NONE, colours), Gifs.END);
                Desks.refuses("the one behind the last of " + colours, Desks.BROKEN, beyond);
            }
            byte[] cut = Arrays.copyOf(table, table.length - 1);
            Desks.refuses("a byte less than " + colours, Desks.BROKEN,
                    Desks.join(Gifs.head(1, 1, 128 + k, cut), last(0, Gifs.NONE, 0), Gifs.END));
            byte[] bare = Desks.join(Gifs.head(1, 1, k + 120, Gifs.NONE), last(128, TWO, 1), Gifs.END);
            Desks.reads("flags without 128 and " + k, bare, 1, 1, 0x080808FF);
        }
    }

    private static void subs() {
        Check.sentence("33: a byte, SUBS: (a length 1 .. 255, so many bytes) again and again, 0");
        reads("none", Gifs.COLOURS[1], Gifs.extension(254, 0), Gifs.DOT);
        reads("one of one byte", Gifs.COLOURS[1], Gifs.extension(254, 1, 59, 0), Gifs.DOT);
        byte[] longest = Desks.join(Gifs.extension(1), Gifs.subs(new byte[255], 255));
        reads("one of 255", Gifs.COLOURS[1], longest, Gifs.DOT);
        byte[] many = Desks.join(Gifs.extension(255), Gifs.subs(new byte[1000], 3));
        reads("many", Gifs.COLOURS[1], many, many, Gifs.DOT, many);
        for (int label = 0; label < 256; label++) {
            if (label != 249) {
                reads("label " + label, Gifs.COLOURS[1], Gifs.extension(label, 5, 1, 0, 0, 1, 0, 0), Gifs.DOT);
            }
        }
        byte[] head = Gifs.head(1, 1, 129, Gifs.FOUR);
        Desks.refuses("without 0", Desks.BROKEN, Desks.join(head, Gifs.DOT, Gifs.extension(254, 1, 1)));
        Desks.refuses("cut off", Desks.BROKEN, Desks.join(head, Gifs.DOT, Gifs.extension(254, 3, 1, 0)));
        Desks.refuses("a label alone", Desks.BROKEN, Desks.join(head, Gifs.DOT, Gifs.extension(254)));
        Desks.refuses("33 alone", Desks.BROKEN, Desks.join(head, Gifs.DOT, Desks.bytes(33)));
        Desks.refuses("the end within", Desks.BROKEN, Desks.join(head, Gifs.DOT, Gifs.extension(254, 2, 0, 59)));
        byte[] image = Arrays.copyOf(Gifs.image(1, 1, 2, Gifs.NONE), 11);
        for (int most = 1; most <= LZW.length; most++) {
            reads("an image's, of " + most, Gifs.COLOURS[1], Desks.join(image, Gifs.subs(LZW, most)));
        }
        broken("an image's, none", Desks.join(image, Desks.bytes(0)));
        Desks.refuses("an image's, without 0", Desks.BROKEN,
                Desks.join(head, image, Desks.bytes(LZW.length), LZW));
    }

    private static void oneSub() {
        Check.sentence("with the byte 249 the first SUB has 4 bytes, the only one");
        reads("of 4 bytes", CLEAR, Gifs.extension(249, 4, 1, 0, 0, 1, 0), Gifs.DOT);
        broken("none", Gifs.extension(249, 0), Gifs.DOT);
        for (int n : new int[] {1, 2, 3, 5, 6, 255}) {
            byte[] wrong = Desks.join(Gifs.extension(249), Gifs.subs(Desks.with(new byte[n], 0, 1), 255));
            broken("of " + n, wrong, Gifs.DOT);
            broken("of " + n + " behind the image", Gifs.DOT, wrong);
        }
        broken("two of 4", Gifs.extension(249, 4, 1, 0, 0, 1, 4, 1, 0, 0, 1, 0), Gifs.DOT);
        broken("one of 4 and one of 1", Gifs.extension(249, 4, 1, 0, 0, 1, 1, 7, 0), Gifs.DOT);
        broken("two behind the image", Gifs.DOT, Gifs.extension(249, 4, 1, 0, 0, 1, 1, 7, 0));
        byte[] head = Gifs.head(1, 1, 129, Gifs.FOUR);
        for (int n = 0; n < 6; n++) {
            byte[] cut = Arrays.copyOf(Gifs.extension(249, 4, 1, 0, 0, 1, 0), 2 + n);
            Desks.refuses("cut off at " + n, Desks.BROKEN, Desks.join(head, Gifs.DOT, cut));
        }
    }

    private static void transparent() {
        Check.sentence("flags, 2 bytes, an index, transparent (A 0; R, G, B as the TABLE has them) for the next image"
                + " if flags is odd.");
        for (int flags = 0; flags < 256; flags += 5) {
            byte[] told = Gifs.extension(249, 4, flags, 7, 7, 1, 0);
            reads("flags " + flags, flags % 2 == 1 ? CLEAR : Gifs.COLOURS[1], told, Gifs.DOT);
        }
        byte[] clear1 = Gifs.extension(249, 4, 1, 7, 7, 1, 0);
        reads("another index", Gifs.COLOURS[1], Gifs.extension(249, 4, 1, 1, 1, 2, 0), Gifs.DOT);
        reads("an index beyond the table", Gifs.COLOURS[1], Gifs.extension(249, 4, 1, 1, 1, 255, 0), Gifs.DOT);
        reads("others between", CLEAR, clear1, Gifs.extension(254, 0), Gifs.DOT);
        reads("behind the image", Gifs.COLOURS[1], Gifs.DOT, clear1);
        reads("for the second image", Gifs.COLOURS[1], Gifs.DOT, clear1, Gifs.DOT);
        reads("for the first image, not the second", CLEAR, clear1, Gifs.DOT, Gifs.extension(249, 4, 0, 7, 7, 1, 0), Gifs.DOT);
        byte[] two = Gifs.image(4, 1, 2, Gifs.codes(2, 4, 0, 1, 1, 3, 5));
        Desks.reads("several points", Gifs.file(4, 1, clear1, two), 1, 4, Gifs.COLOURS[0], CLEAR, CLEAR, Gifs.COLOURS[3]);
        byte[] own = Gifs.image(0, 0, 1, 1, 128, TWO, 2, LZW);
        reads("of its own table", 0x08080800, clear1, own);
        broken("the transparent index is beyond its own table", Gifs.extension(249, 4, 1, 7, 7, 2, 0),
                Gifs.image(0, 0, 1, 1, 128, TWO, 2, Gifs.codes(2, 4, 2, 5)));
        PictureDesk desk = new PictureDesk();
        Desks.load(desk, Gifs.file(1, 1, Gifs.DOT, clear1));
        desk.read(0);
        Desks.load(desk, FILE);
        desk.read(0);
        Check.due("the next file", desk.get(0, 0, 0), Gifs.COLOURS[1]);
    }

    private static void places() {
        Check.sentence("44: left, top, width, height (2 each, 1 at least, within), flags");
        byte[] lzw = Gifs.codes(2, 4, 0, 1, 2, 3, 0, 1, 5);
        int[] c = Gifs.COLOURS;
        Desks.reads("in the corner", Gifs.file(4, 3, Gifs.image(1, 1, 3, 2, 0, Gifs.NONE, 2, lzw)), 1, 4,
                0, 0, 0, 0, 0, c[0], c[1], c[2], 0, c[3], c[0], c[1]);
        Desks.reads("all of it", Gifs.file(3, 2, Gifs.image(3, 2, 2, lzw)), 1, 3, c[0], c[1], c[2], c[3], c[0], c[1]);
        Desks.reads("at 1 0", Gifs.file(4, 2, Gifs.image(1, 0, 3, 2, 0, Gifs.NONE, 2, lzw)), 1, 4,
                0, c[0], c[1], c[2], 0, c[3], c[0], c[1]);
        int[][] outside = {
            {2, 1, 3, 2}, {1, 2, 3, 2}, {0, 0, 5, 1}, {0, 0, 1, 4}, {4, 0, 1, 1}, {0, 3, 1, 1}, {65535, 0, 1, 1},
            {0, 65535, 1, 1}, {65535, 65535, 1, 1}, {0, 0, 65535, 65535}, {65533, 0, 3, 2}, {1, 0, 65535, 1},
            {0, 0, 0, 1}, {0, 0, 1, 0}, {0, 0, 0, 0}, {4, 0, 0, 1}, {0, 3, 1, 0}
        };
        for (int[] p : outside) {
            byte[] image = Gifs.image(p[0], p[1], p[2], p[3], 0, Gifs.NONE, 2, lzw);
            Desks.refuses("place " + Arrays.toString(p), Desks.BROKEN, Gifs.file(4, 3, image));
            Desks.refuses("empty at " + Arrays.toString(p), Desks.BROKEN,
                    Gifs.file(4, 3, Gifs.image(p[0], p[1], p[2], p[3], 0, Gifs.NONE, 2, Gifs.codes(2, 4, 5))));
            Desks.refuses("second at " + Arrays.toString(p), Desks.BROKEN, Gifs.file(4, 3, Gifs.DOT, image));
        }
        for (int flags : new int[] {0, 7, 8, 32, 63}) {
            reads("flags " + flags, c[1], Gifs.image(0, 0, 1, 1, flags, Gifs.NONE, 2, LZW));
        }
    }

    private static void ownTable() {
        Check.sentence("with 128 a TABLE of its own as above");
        for (int k = 0; k < 8; k++) {
            int colours = 2 << k;
            byte[] table = tableOf(colours);
            reads("the last of " + colours, Gifs.colour(table, colours - 1), last(128 + k, table, colours - 1));
            reads("the last of " + colours + ", all flags but 64", Gifs.colour(table, colours - 1),
                    last(128 + 56 + k, table, colours - 1));
            if (k < 7) {
                broken("the one behind the last of " + colours, last(128 + k, table, colours));
            }
        }
        byte[] large = Gifs.head(1, 1, 135, tableOf(256));
        Desks.refuses("a smaller one counts alone", Desks.BROKEN, Desks.join(large, last(128, TWO, 2), Gifs.END));
        Desks.refuses("cut off", Desks.BROKEN, Desks.join(Gifs.head(1, 1, 129, Gifs.FOUR),
                Desks.bytes(44, 0, 0, 0, 0, 1, 0, 1, 0, 128, 1, 2, 3)));
    }

    private static void leastBits() {
        Check.sentence("a byte m 2 .. 8");
        for (int m = 2; m <= 8; m++) {
            reads("m " + m, Gifs.COLOURS[1], Gifs.image(1, 1, m, Gifs.codes(m, 1 << m, 1, (1 << m) + 1)));
        }
        for (int m : new int[] {0, 1, 9, 10, 11, 12, 31, 32, 128, 130, 255}) {
            int told = Math.min(m, 11);
            byte[] lzw = Gifs.codes(told, 1 << told, 1, (1 << told) + 1);
            broken("m " + m, Gifs.image(1, 1, m, lzw));
            broken("m " + m + " of a second image", Gifs.DOT, Gifs.image(1, 1, m, lzw));
        }
    }

    private static void end() {
        Check.sentence("59: the end.");
        byte[] before = Arrays.copyOf(FILE, FILE.length - 1);
        Desks.refuses("none", Desks.BROKEN, before);
        for (int mark = 0; mark < 256; mark++) {
            if (mark != 59) {
                Desks.refuses("mark " + mark, Desks.BROKEN, Desks.join(before, Desks.bytes(mark)));
                Desks.refuses("mark " + mark + " and the end", Desks.BROKEN, Desks.join(before, Desks.bytes(mark, 59)));
            }
        }
        Desks.refuses("two", Desks.BROKEN, Desks.join(FILE, Gifs.END));
        Desks.refuses("a block behind it", Desks.BROKEN, Desks.join(FILE, Gifs.DOT));
    }

    private static void oneImage() {
        Check.sentence("At least one image");
        Desks.refuses("none", Desks.BROKEN, Gifs.file(1, 1));
        broken("none but extensions", Gifs.extension(254, 1, 1, 0), Gifs.extension(249, 4, 1, 0, 0, 1, 0));
        reads("one", Gifs.COLOURS[1], Gifs.DOT);
        byte[][] many = new byte[2000][];
        Arrays.fill(many, Gifs.DOT);
        reads("2000", Gifs.COLOURS[1], many);
    }

    private static void rest() {
        Check.sentence("of the first the POINTS are in the IMAGE, all else of it 0");
        PictureDesk desk = new PictureDesk();
        for (int s = 0; s < 4; s++) {
            desk.make(s, 3, 3, -1);
            Desks.load(desk, Bmps.plain(3, 3, new byte[36]));
            desk.read(s);
        }
        byte[] dot = Gifs.image(1, 1, 1, 1, 0, Gifs.NONE, 2, LZW);
        Desks.load(desk, Gifs.file(3, 3, dot, Gifs.image(0, 0, 3, 3, 0, Gifs.NONE, 2, LZW)));
        Check.answers("read", 1, () -> desk.read(0));
        for (int i = 0; i < 9; i++) {
            Check.due("point " + i, desk.get(0, i % 3, i / 3), i == 4 ? Gifs.COLOURS[1] : 0);
        }
    }

    private static void passedOver() {
        Check.sentence("others are passed over (their places, TABLE and m as told, LZW not looked at)");
        int[] c = Gifs.COLOURS;
        reads("LZW that is broken", c[1], Gifs.DOT, Gifs.image(1, 1, 2, Desks.bytes(255, 255, 255)));
        reads("LZW that is empty", c[1], Gifs.DOT, Gifs.image(1, 1, 8, Gifs.NONE));
        reads("another index", c[1], Gifs.DOT, Gifs.image(1, 1, 2, Gifs.codes(2, 4, 2, 5)));
        reads("an index beyond the table", c[1], Gifs.DOT, Gifs.image(1, 1, 8, Gifs.codes(8, 256, 200, 257)));
        reads("a table", c[1], Gifs.DOT, Gifs.image(0, 0, 1, 1, 128, TWO, 2, LZW));
        reads("interlace", c[1], Gifs.DOT, Gifs.image(0, 0, 1, 1, 64, Gifs.NONE, 2, LZW));
        byte[] table = tableOf(256);
        reads("a table of 256", c[1], Gifs.DOT, Gifs.image(0, 0, 1, 1, 135, table, 8, LZW));
        broken("outside", Gifs.DOT, Gifs.image(1, 0, 1, 1, 0, Gifs.NONE, 2, LZW));
        broken("of width 0", Gifs.DOT, Gifs.image(0, 0, 0, 1, 0, Gifs.NONE, 2, LZW));
        broken("m 9", Gifs.DOT, Gifs.image(1, 1, 9, LZW));
        broken("m 1", Gifs.DOT, Gifs.image(1, 1, 1, LZW));
        byte[] before = Desks.join(Gifs.head(1, 1, 129, Gifs.FOUR), Gifs.DOT);
        byte[] second = Gifs.image(0, 0, 1, 1, 128, TWO, 2, LZW);
        for (int n = 1; n <= second.length; n++) {
            Desks.refuses("cut off at " + n, Desks.BROKEN, Desks.join(before, Arrays.copyOf(second, n)));
        }
        broken("the first one's LZW, though the second's is whole",
                Gifs.image(1, 1, 2, Desks.bytes(255, 255, 255)), Gifs.DOT);
    }

    private static void noTable() {
        Check.sentence("No TABLE for the first image, or an index beyond it: BROKEN.");
        byte[] bare = Gifs.head(1, 1, 1, Gifs.NONE);
        byte[] own = Gifs.image(0, 0, 1, 1, 128, TWO, 2, LZW);
        Desks.refuses("none", Desks.BROKEN, Desks.join(bare, Gifs.DOT, Gifs.END));
        Desks.refuses("one for the second alone", Desks.BROKEN, Desks.join(bare, Gifs.DOT, own, Gifs.END));
        Desks.reads("one of its own", Desks.join(bare, own, Gifs.END), 1, 1, 0x080808FF);
        Desks.reads("none for the second", Desks.join(bare, own, Gifs.DOT, Gifs.END), 1, 1, 0x080808FF);
        broken("index 4 of 4", Gifs.image(1, 1, 3, Gifs.codes(3, 8, 4, 9)));
        reads("index 3 of 4", Gifs.COLOURS[3], Gifs.image(1, 1, 3, Gifs.codes(3, 8, 3, 9)));
        broken("index 255 of 4", Gifs.image(1, 1, 8, Gifs.codes(8, 256, 255, 257)));
        broken("index 2 of its own 2", Gifs.image(0, 0, 1, 1, 128, TWO, 2, Gifs.codes(2, 4, 2, 5)));
        byte[] late = Gifs.image(4, 1, 3, Gifs.codes(3, 8, 0, 1, 2, 4, 9));
        Desks.refuses("the last index alone", Desks.BROKEN, Gifs.file(4, 1, late));
        PictureDesk desk = new PictureDesk();
        Desks.load(desk, FILE);
        desk.read(0);
        Desks.load(desk, Desks.join(bare, Gifs.DOT, Gifs.END));
        Check.refuses("none, behind a file that had one", Desks.BROKEN, () -> desk.read(0));
    }
}
