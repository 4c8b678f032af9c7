import java.util.Arrays;
import java.util.Random;

/** What "Terms" says under WRITTEN: by hand at the edges, and by plain writers. */
public final class WrittenSentencesTest {
    private static final int PNG = 0;
    private static final int GIF = 1;
    private static final int BMP = 2;

    public static void main(String[] args) {
        pngParts();
        copies();
        copyLengths();
        copyDistances();
        filters();
        leastSum();
        transparent();
        table();
        tableOrder();
        head();
        transparentIndex();
        leastBits();
        longestRow();
        fullTable();
        codeBits();
        subs();
        alpha();
        plainRows();
        usedColours();
        runs();
        rowEnds();
        Check.finish();
    }

    private static void writesPng(String what, int width, int mode, int... points) {
        Desks.writes(what, Desks.holding(width, points), PNG, mode, PlainWriters.png(width, points, mode));
    }

    private static void writesGif(String what, int width, int mode, int... points) {
        Desks.writes(what, Desks.holding(width, points), GIF, mode, PlainWriters.gif(width, points, mode == 1));
    }

    private static void writesRuns(String what, int width, int... points) {
        Desks.writes(what, Desks.holding(width, points), BMP, 1, PlainWriters.runBmp(width, points));
    }

    /** A PNG by hand, of those rows as the bits tell them. */
    private static byte[] png(int width, int height, Desks.Bits deflate, int... rows) {
        byte[] zlib = Pngs.zlibRound(Deflates.end(deflate).bytes(), Desks.bytes(rows));
        return Pngs.file(Pngs.header(width, height, 8, 6, 0), Pngs.data(zlib));
    }

    private static int[] noise(int n, int seed) {
        return new Random(seed).ints(n).toArray();
    }

    private static void pngParts() {
        Check.sentence("PNG: IHDR (depth 8, kind 6, no interlace), one IDAT, IEND; ZLIB 120 1; one fixed BLOCK");
        byte[] due = png(1, 1, Deflates.fixed(0, 255, 0, 0, 128), 0, 255, 0, 0, 128);
        Desks.writes("a point", Desks.holding(1, 0xFF000080), PNG, 0, due);
        int[] wide = noise(300, 1);
        writesPng("300 x 1", 300, 0, wide);
        writesPng("1 x 300", 1, 0, wide);
        PictureDesk desk = new PictureDesk();
        desk.make(0, 128, 128, 0x01020304);
        int[] same = new int[16384];
        Arrays.fill(same, 0x01020304);
        for (int mode = 0; mode <= 5; mode++) {
            Desks.writes("128 x 128", desk, PNG, mode, PlainWriters.png(128, same, mode));
        }
    }

    private static void copies() {
        Check.sentence("at each place the longest copy of 3 .. 258 bytes from at most 4096 back (the nearest of these),"
                + " if there is one, else the byte");
        // 0 5 5 6 7: two alike are no copy of three.
        Desks.writes("two alike", Desks.holding(1, 0x05050607), PNG, 0, png(1, 1, Deflates.fixed(0, 5, 5, 6, 7), 0, 5, 5, 6, 7));
        // 0 5 5 5 5: a byte, then a copy of three from 1 back.
        Desks.Bits three = Deflates.fixed(0, 5).code(Deflates.fixedCode(257)).code("00000");
        Desks.writes("three from 1 back", Desks.holding(1, 0x05050505), PNG, 0, png(1, 1, three, 0, 5, 5, 5, 5));
        // 0 1 2 3 4 1 2 3 9: three from 4 back, then the byte.
        Desks.Bits four = Deflates.fixed(0, 1, 2, 3, 4).code(Deflates.fixedCode(257)).code("00011").code(Deflates.fixedCode(9));
        Desks.writes("three from 4 back", Desks.holding(2, 0x01020304, 0x01020309), PNG, 0, png(2, 1, four, 0, 1, 2, 3, 4, 1, 2, 3, 9));
        // The second 1 2 3 is three from 4 back, the third from 4 and from 8 back.
        Desks.Bits nearest = Deflates.fixed(0, 1, 2, 3, 9);
        for (int v : new int[] {8, 7}) {
            nearest.code(Deflates.fixedCode(257)).code("00011").code(Deflates.fixedCode(v));
        }
        Desks.writes("the nearest", Desks.holding(3, 0x01020309, 0x01020308, 0x01020307), PNG, 0,
                png(3, 1, nearest, 0, 1, 2, 3, 9, 1, 2, 3, 8, 1, 2, 3, 7));
        // 1 2 3 4 5 1 2 3 6 7 .. 1 2 3 4 5: the longer one is farther off.
        int[] longer = {0x01020304, 0x05010203, 0x06070102, 0x03040509};
        Desks.Bits farther = Deflates.fixed(0, 1, 2, 3, 4, 5).code(Deflates.fixedCode(257)).code("00100").number(0, 1)
                .code(Deflates.fixedCode(6)).code(Deflates.fixedCode(7)).code(Deflates.fixedCode(259)).code("00110").number(1, 2)
                .code(Deflates.fixedCode(9));
        Desks.writes("the longest, though farther off", Desks.holding(4, longer), PNG, 0,
                png(4, 1, farther, 0, 1, 2, 3, 4, 5, 1, 2, 3, 6, 7, 1, 2, 3, 4, 5, 9));
        // At each place: a copy of three is taken though one of four begins at the next byte.
        int[] greedy = {0x01020308, 0x02030405, 0x07010203, 0x04050909};
        writesPng("the longest here, not behind", 4, 0, greedy);
    }

    private static void copyLengths() {
        Check.sentence("the longest copy of 3 .. 258 bytes");
        // Behind 0 7 0 there are as many zeros as points but one has bytes, and two.
        int[] exact = new int[65];
        exact[0] = 0x07000000;
        Desks.Bits just = Deflates.fixed(0, 7, 0).code(Deflates.fixedCode(285)).code("00000");
        int[] rows = new int[261];
        rows[1] = 7;
        Desks.writes("258", Desks.holding(65, exact), PNG, 0, png(65, 1, just, rows));
        // 1 0 and 259 zeros: 258 and a byte.
        Desks.Bits one = Deflates.fixed(1, 0).code(Deflates.fixedCode(285)).code("00000").code(Deflates.fixedCode(0));
        int[] filtered = new int[261];
        filtered[0] = 1;
        Desks.writes("259", Desks.holding(65, new int[65]), PNG, 1, png(65, 1, one, filtered));
        // 0 and 260 zeros: 258 and two bytes.
        Desks.Bits two = Deflates.fixed(0).code(Deflates.fixedCode(285)).code("00000").code(Deflates.fixedCode(0))
                .code(Deflates.fixedCode(0));
        Desks.writes("260", Desks.holding(65, new int[65]), PNG, 0, png(65, 1, two, new int[261]));
        // 0 7 7 0 and 261 zeros: 258 and three.
        int[] sevens = new int[66];
        sevens[0] = 0x07070000;
        Desks.Bits both = Deflates.fixed(0, 7, 7, 0).code(Deflates.fixedCode(285)).code("00000")
                .code(Deflates.fixedCode(257)).code("00000");
        int[] sevenRows = new int[265];
        sevenRows[1] = 7;
        sevenRows[2] = 7;
        Desks.writes("261", Desks.holding(66, sevens), PNG, 0, png(66, 1, both, sevenRows));
        for (int width = 1; width <= 140; width++) {
            writesPng("zeros, width " + width, width, 0, new int[width]);
            int[] points = new int[width];
            points[width - 1] = 1;
            writesPng("zeros but the last, width " + width, width, 1, points);
        }
    }

    private static void copyDistances() {
        Check.sentence("from at most 4096 back");
        int[] far = noise(1400, 2);
        for (int period : new int[] {1023, 1024, 1025}) {
            for (int i = period; i < far.length; i++) {
                far[i] = far[i - period];
            }
            byte[] due = PlainWriters.png(far.length, far, 0);
            Desks.writes("from " + 4 * period + " back", Desks.holding(far.length, far), PNG, 0, due);
            boolean isShort = due.length < 5000;
            Check.due("copies from " + 4 * period + " back", isShort ? 1 : 0, period <= 1024 ? 1 : 0);
        }
        // Two rows alike: one is 4093, 4097 bytes behind the other.
        for (int width : new int[] {1023, 1024}) {
            int[] row = noise(width, 3);
            int[] twice = Arrays.copyOf(row, 2 * width);
            System.arraycopy(row, 0, twice, width, width);
            byte[] due = PlainWriters.png(width, twice, 0);
            Desks.writes("rows " + (4 * width + 1) + " back", Desks.holding(width, twice), PNG, 0, due);
            Check.due("copies from " + (4 * width + 1) + " back", due.length < 5000 ? 1 : 0, width == 1023 ? 1 : 0);
        }
        // Three bytes at each distance near the edge, and nothing else alike.
        for (int back = 4090; back <= 4100; back++) {
            byte[] bytes = new byte[4400];
            new Random(5).nextBytes(bytes);
            for (int k = 0; k < 8; k++) {
                bytes[100 + back + k] = bytes[100 + k];
            }
            int[] points = new int[1100];
            for (int k = 0; k < 4400; k++) {
                points[k / 4] |= (bytes[k] & 255) << 24 - k % 4 * 8;
            }
            writesPng("eight bytes from " + back + " back", 1100, 0, points);
        }
    }

    private static void filters() {
        Check.sentence("mode 0 .. 4 that byte before each ROW");
        int[] points = {0x01020304, 0x11223344, 0xFF000080, 0x80FF7F00, 0x01020304, 0xFEFDFCFB};
        for (int mode = 0; mode <= 4; mode++) {
            for (int width : new int[] {1, 2, 3, 6}) {
                writesPng("width " + width, width, mode, points);
            }
        }
        // One column of two: a and c are 0, so 4 takes off b.
        int[] column = {0x0A141E28, 0x0B0A0908};
        int[][] second = {{11, 10, 9, 8}, {11, 10, 9, 8}, {1, 246, 235, 224}, {6, 0, 250, 244}, {1, 246, 235, 224}};
        for (int mode = 0; mode <= 4; mode++) {
            int[] s = second[mode];
            int[] rows = {mode, 10, 20, 30, 40, mode, s[0], s[1], s[2], s[3]};
            // No three of them come twice, so they stand as they are.
            byte[] due = png(1, 2, Deflates.fixed(rows), rows);
            Desks.writes("a column", Desks.holding(1, column), PNG, mode, due);
        }
    }

    /** The filters that mode 5 takes for these rows, as read from what the fixed block gives. */
    private static void best(String what, int width, int[] points, int... due) {
        PictureDesk desk = Desks.holding(width, points);
        Desks.writes(what, desk, PNG, 5, PlainWriters.png(width, points, 5));
        byte[] rows = inflated(Desks.result(desk), due.length * (1 + 4 * width));
        for (int y = 0; y < due.length; y++) {
            Check.due(what + ": row " + y, rows[y * (1 + 4 * width)], due[y]);
        }
    }

    private static byte[] inflated(byte[] file, int n) {
        java.util.zip.Inflater inflater = new java.util.zip.Inflater();
        byte[] rows = new byte[n];
        try {
            inflater.setInput(file, 41, file.length - 41);
            Check.due("bytes inflated", inflater.inflate(rows), n);
        } catch (java.util.zip.DataFormatException e) {
            Check.due("inflated: " + e, 0, 1);
        } finally {
            inflater.end();
        }
        return rows;
    }

    private static void leastSum() {
        Check.sentence("5 the one with the least sum of all as bytes with sign in size (the first of these)");
        best("nothing at all", 2, new int[4], 0, 0);
        best("a point alone", 1, new int[] {0x01020304}, 0);
        // Sums of 30 for each filter, though they differ point by point.
        best("all alike", 2, new int[] {0x0A0A0000, 0x0A000000}, 0);
        best("1 before 4", 2, greys(80, 80), 1);
        best("2 before 4", 1, greys(80, 80), 0, 2);
        best("2 before 4, of two points", 2, greys(100, 150, 100, 150), 1, 2);
        best("3 leaves nothing", 2, greys(80, 16, 40, 28), 0, 3);
        // In size 96 for 1, 128 for 2, 112 for 3, 64 for 4.
        best("4 leaves the least", 4, greys(32, 32, 96, 96, 96, 96, 96, 96), 1, 4);
        // 128 is -128, whose size is 128.
        best("5 is less than -128 in size", 1, new int[] {0x7B000000, 0x80000000}, 0, 2);
        best("127 is less than -128 in size", 1, new int[] {0x01000000, 0x80000000}, 0, 2);
        best("1 is less than -127 in size", 1, new int[] {0xFF000000, 0x80000000}, 0, 3);
        // Were the filter's own byte in the sum, 0 would be no worse than these.
        best("1 by one", 2, new int[] {0x01000000, 0x01000000}, 1);
        best("2 by one", 1, new int[] {0x01000000, 0x01000000}, 0, 2);
        writesPng("noise", 64, 5, noise(64 * 20, 9));
        int[] slope = new int[64];
        for (int i = 0; i < 64; i++) {
            slope[i] = (i % 8 < i / 8 ? 200 - 9 * (i / 8) : 30 + 9 * (i % 8)) * 0x01010101;
        }
        writesPng("a slope", 8, 5, slope);
    }

    private static int[] greys(int... values) {
        return Arrays.stream(values).map(v -> v * 0x01010101).toArray();
    }

    private static void transparent() {
        Check.sentence("a POINT with A below 128 is TRANSPARENT, others count by R, G, B.");
        byte[] lzw = Desks.bytes(2, 0x44, 1, 0, 59);
        byte[] head = Desks.join("GIF89a".getBytes(), Desks.bytes(1, 0, 1, 0, 128, 0, 0));
        byte[] image = Desks.bytes(44, 0, 0, 0, 0, 1, 0, 1, 0, 0, 2);
        for (int alpha : new int[] {128, 129, 255}) {
            Desks.writes("A " + alpha, Desks.holding(1, 0x0A0B0C00 | alpha), GIF, 0,
                    Desks.join(head, Desks.bytes(10, 11, 12, 0, 0, 0), image, lzw));
        }
        for (int alpha : new int[] {0, 1, 127}) {
            Desks.writes("A " + alpha, Desks.holding(1, 0x0A0B0C00 | alpha), GIF, 0,
                    Desks.join(head, new byte[6], Desks.bytes(33, 249, 4, 1, 0, 0, 0, 0), image, lzw));
        }
        writesGif("all of them are one", 4, 0, 0x0A0B0C00, 0x11111101, 0x2222227F, 0x33333340);
        writesGif("A of the others counts for nothing", 4, 0, 0x0A0B0C80, 0x0A0B0CFF, 0x0A0B0C90, 0x0A0B0D80);
        writesGif("black and TRANSPARENT are two", 3, 0, 0x000000FF, 0x00000000, 0x000000FF);
        writesGif("TRANSPARENT and black are two", 3, 1, 0x00000000, 0x000000FF, 0x00000000);
    }

    private static int[] colours(int n) {
        int[] points = new int[n];
        for (int k = 0; k < n; k++) {
            points[k] = (k * 0x010307 + 5) << 8 | 255;
        }
        return points;
    }

    private static void table() {
        Check.sentence("filled with 0 0 0 up to 2 or the next power of two");
        for (int n : new int[] {1, 2, 3, 4, 5, 7, 8, 9, 15, 16, 17, 31, 32, 33, 63, 64, 65, 127, 128, 129, 255, 256}) {
            int[] points = colours(n);
            int entries = 2;
            while (entries < n) {
                entries *= 2;
            }
            PictureDesk desk = Desks.holding(n, points);
            Desks.writes(n + " colours", desk, GIF, 0, PlainWriters.gif(n, points, false));
            byte[] file = Desks.result(desk);
            for (int k = 0; k < entries; k++) {
                int colour = k < n ? points[k] >>> 8 : 0;
                int at = 13 + 3 * k;
                Check.due("colour " + k + " of " + n,
                        (file[at] & 255) << 16 | (file[at + 1] & 255) << 8 | file[at + 2] & 255, colour);
            }
            Check.due("the byte behind " + n + " colours", file[13 + 3 * entries], 44);
            points[n / 2] = 0;
            writesGif(n + " colours, one TRANSPARENT", n, 1, points);
        }
        tablesOfOneDesk();
    }

    /** What a desk wrote before leaves nothing in what it writes then. */
    private static void tablesOfOneDesk() {
        int[] many = colours(256);
        int[] few = {0x010101FF, 0x020202FF, 0x030303FF, 0x020202FF};
        int[] clear = {0x010101FF, 0x02020200, 0x030303FF, 0x02020200};
        PictureDesk desk = new PictureDesk();
        int[][] images = {many, few, clear, many, clear, few};
        for (int[] points : images) {
            desk.make(0, points.length, 1, 0);
            for (int i = 0; i < points.length; i++) {
                desk.set(0, i, 0, points[i]);
            }
            for (int mode = 0; mode <= 1; mode++) {
                Desks.writes("one desk, " + points.length, desk, GIF, mode, PlainWriters.gif(points.length, points, mode == 1));
            }
            Desks.writes("one desk, " + points.length, desk, BMP, 1, PlainWriters.runBmp(points.length, points));
        }
    }

    private static void tableOrder() {
        Check.sentence("TABLE: these colours, and TRANSPARENT as 0 0 0, in the order in which they come, row by row");
        int[] points = {0x050505FF, 0x010101FF, 0x05050580, 0x00000000, 0x030303FF, 0x010101FF, 0x00000010, 0x020202FF};
        for (int mode = 0; mode <= 1; mode++) {
            for (int width : new int[] {1, 2, 4, 8}) {
                PictureDesk desk = Desks.holding(width, points);
                writesGif("mode " + mode + ", width " + width, width, mode, points);
                desk.write(0, GIF, mode);
                Check.due("the first colours", desk.word(13), 0x0505050101010000L);
                Check.due("the next ones", desk.word(21), 0x0003030302020200L);
                Check.due("TRANSPARENT's index", desk.word(37), 0x21F9040100000200L);
            }
        }
        // Any colours, each of which comes again and again.
        Random random = new Random(15);
        int[] table = random.ints(255).map(colour -> colour | 128).toArray();
        int[] any = random.ints(2000, 0, 256).map(k -> k < 255 ? table[k] : k << 8).toArray();
        writesGif("any colours", 100, 0, any);
        writesGif("any colours", 40, 1, any);
        writesRuns("any colours", 50, any);
    }

    private static void head() {
        Check.sentence("128 and 16 times (bits - 1) and bits - 1 (the TABLE has 2^bits colours)");
        int[] due = {128, 128, 145, 145, 162, 179, 196, 213, 230, 247};
        int[] colours = {1, 2, 3, 4, 8, 16, 32, 64, 128, 256};
        for (int k = 0; k < colours.length; k++) {
            PictureDesk desk = Desks.holding(colours[k], colours(colours[k]));
            desk.write(0, GIF, 0);
            Check.due(colours[k] + " colours", desk.word(3) & 255, due[k]);
        }
    }

    private static void transparentIndex() {
        Check.sentence("if there is TRANSPARENT: 33 249 4 1 0 0 index 0");
        int[] points = colours(256);
        for (int index : new int[] {0, 1, 128, 255}) {
            int[] some = points.clone();
            some[index] = 0x7F;
            PictureDesk desk = Desks.holding(256, some);
            desk.write(0, GIF, 0);
            Check.due("index " + index, desk.word(13 + 768), 0x21F9040100000000L | index << 8);
            Check.due("the byte behind it", desk.word(13 + 768 + 8) >>> 56, 44);
            writesGif("index " + index, 256, 0, some);
        }
        PictureDesk none = Desks.holding(256, points);
        none.write(0, GIF, 0);
        Check.due("none", none.word(13 + 768) >>> 56, 44);
        // The desk has written one with TRANSPARENT before.
        none.set(0, 0, 0, 0);
        none.write(0, GIF, 0);
        none.set(0, 0, 0, points[0]);
        none.write(0, GIF, 0);
        Check.due("none any more", none.word(13 + 768) >>> 56, 44);
    }

    private static void leastBits() {
        Check.sentence("0 (mode 1: 64, interlace), m: bits, 2 at least");
        int[] colours = {1, 2, 3, 4, 5, 8, 9, 16, 17, 32, 64, 128, 129, 256};
        int[] due = {2, 2, 2, 2, 3, 3, 4, 4, 5, 5, 6, 7, 8, 8};
        for (int k = 0; k < colours.length; k++) {
            int n = colours[k];
            int entries = Math.max(2, Integer.highestOneBit(2 * n - 1));
            for (int mode = 0; mode <= 1; mode++) {
                PictureDesk desk = Desks.holding(n, colours(n));
                desk.write(0, GIF, mode);
                byte[] file = Desks.result(desk);
                Check.due("m of " + n + " colours", file[13 + 3 * entries + 10], due[k]);
                Check.due("flags of " + n + " colours", file[13 + 3 * entries + 9], 64 * mode);
            }
        }
        int[] rows = colours(20);
        for (int height = 1; height <= 20; height++) {
            writesGif("interlaced, height " + height, 1, 1, Arrays.copyOf(rows, height));
        }
    }

    /** Indices of which no two neighbours come twice, so that each code is one index. */
    private static int[] steps(int n) {
        int[] points = new int[n];
        int index = 0;
        for (int i = 0; i < n; i++) {
            points[i] = index << 16 | 255;
            index = index + 2 * (i / 256) + 1 & 255;
        }
        return points;
    }

    private static void longestRow() {
        Check.sentence("LZW: a beginning; each time the longest row, its code");
        // 0 and each other index, and 0 0: these are 256 rows that begin with 0, of which the first, 0 1, comes again.
        int[] pairs = new int[514];
        for (int k = 1; k < 256; k++) {
            pairs[2 * k - 1] = k;
        }
        pairs[512] = 1;
        pairs[513] = 7;
        int[] points = Arrays.stream(pairs).map(index -> index << 8 | 255).toArray();
        writesGif("256 rows of one beginning", 514, 0, points);
        for (int n = 1; n <= 60; n++) {
            int[] same = new int[n];
            Arrays.fill(same, -1);
            writesGif("one colour, " + n, n, 0, same);
        }
        // Indices 0 0 0 0: 0, then row 6 of two, then the rest: 4 0 6 0 5 in 3 3 3 3 4 bits.
        byte[] lzw = new Desks.Bits().number(4, 3).number(0, 3).number(6, 3).number(0, 3).number(5, 4).bytes();
        Desks.writes("four alike", Desks.holding(4, -1, -1, -1, -1), GIF, 0, Desks.join("GIF89a".getBytes(),
                Desks.bytes(4, 0, 1, 0, 128, 0, 0, 255, 255, 255, 0, 0, 0, 44, 0, 0, 0, 0, 4, 0, 1, 0, 0, 2, 2), lzw,
                Desks.bytes(0, 59)));
    }

    private static void fullTable() {
        Check.sentence("then a new row; if that is number 4095, a beginning behind the next code, whatever follows; the end");
        // Rows 258 .. 4095 are 3838: the code 3838 makes the last one, and behind 3839 there is a beginning.
        for (int n = 3836; n <= 3842; n++) {
            int[] points = steps(n);
            writesGif("steps of " + n, n, 0, points);
            PictureDesk desk = Desks.holding(n, points);
            desk.write(0, GIF, 0);
            // 9 bits for 256 codes, 10 for 512, 11 for 1024, 12 then: the reader has a row less than codes.
            long bits = 9 + 9 * 255 + 10 * 512 + 11 * 1024 + 12L * (Math.min(n, 3839) - 255 - 512 - 1024);
            bits += n < 3839 ? 12 : 12 + 9 * (n - 3839) + 9;
            long lzw = (bits + 7) / 8;
            long due = 13 + 768 + 11 + lzw + (lzw + 254) / 255 + 2;
            Check.due("bytes of " + n + " steps", desk.count(1), due);
        }
        int[] same = new int[16384];
        Arrays.fill(same, 255);
        writesGif("one colour", 128, 0, same);
        Random random = new Random(4);
        for (int colours : new int[] {2, 4, 16, 256}) {
            int[] noise = random.ints(16384, 0, colours).map(k -> k << 8 | 255).toArray();
            writesGif("noise of " + colours, 128, 0, noise);
            writesGif("noise of " + colours + ", interlaced", 64, 1, noise);
        }
    }

    private static void codeBits() {
        Check.sentence("each code in as many bits as reading has then");
        // With m 2 the rows 8, 16, .. 4096 come behind so many codes; the end is one of the codes.
        int[] steps = steps(700);
        for (int n = 1; n <= 40; n++) {
            int[] points = Arrays.copyOf(steps, n);
            writesGif("steps of " + n, n, 0, points);
            int[] four = new Random(n).ints(n, 0, 4).map(k -> k << 8 | 255).toArray();
            writesGif("four colours, " + n, n, 0, four);
        }
        for (int n = 250; n <= 260; n++) {
            writesGif("steps of " + n, n, 0, Arrays.copyOf(steps, n));
        }
    }

    private static void subs() {
        Check.sentence("SUBS of 255 and the rest; 0; 59");
        boolean[] seen = new boolean[520];
        int[] steps = steps(500);
        for (int n = 200; n <= 440; n++) {
            int[] points = Arrays.copyOf(steps, n);
            PictureDesk desk = Desks.holding(n, points);
            desk.write(0, GIF, 0);
            byte[] file = Desks.result(desk);
            int at = 13 + 3 * (n > 128 ? 256 : 128) + 11;
            int total = 0;
            while (file[at] != 0) {
                int length = file[at] & 255;
                total += length;
                at += 1 + length;
                Check.due("a SUB of " + length + " is the last or full", length == 255 || file[at] == 0 ? 1 : 0, 1);
            }
            Check.due("the byte behind 0", file[at + 1], 59);
            Check.due("bytes behind that", file.length - at - 2, 0);
            seen[Math.min(total, 519)] = true;
            if (total % 255 >= 253 || total % 255 <= 2) {
                Desks.writes("LZW of " + total, desk, GIF, 0, PlainWriters.gif(n, points, false));
            }
        }
        for (int total : new int[] {254, 255, 256, 510, 511}) {
            Check.due("LZW of " + total + " was seen", seen[total] ? 1 : 0, 1);
        }
    }

    private static void alpha() {
        Check.sentence("A counts for nothing.");
        for (int alpha : new int[] {0, 127, 128, 255}) {
            PictureDesk desk = Desks.holding(2, 0x01020300 | alpha, 0x01020355);
            desk.write(0, BMP, 0);
            Check.due("A " + alpha + ", mode 0", desk.word(54), 0x0302010302010000L);
            desk.write(0, BMP, 1);
            Check.due("A " + alpha + ", mode 1", desk.word(54), 0x0302010002000001L);
            Check.due("A " + alpha + ", bytes of mode 1", desk.count(1), 62);
        }
    }

    private static void plainRows() {
        Check.sentence("Mode 0: depth 24, rows from the bottom, filled with 0; length, 0, 54, 40, .. 1, 24, 0, 20 bytes of 0.");
        int[] points = noise(60, 12);
        for (int width : new int[] {1, 2, 3, 4, 5, 6, 10, 60}) {
            Desks.writes("width " + width, Desks.holding(width, points), BMP, 0, PlainWriters.plainBmp(width, points));
        }
        PictureDesk desk = Desks.holding(1, 0x11121314, 0x21222324);
        Check.answers("bytes of a column", 62, () -> desk.write(0, BMP, 0));
        long[] due = {0x424D3E0000000000L, 0x0000360000002800L, 0x0000010000000200L, 0x0000010018000000L, 0, 0, 0x2322L,
            0x2100131211000000L};
        for (int k = 0; k < due.length; k++) {
            Check.due("word " + 8 * k, desk.word(8 * k), due[k]);
        }
        PictureDesk wide = new PictureDesk();
        wide.make(0, 300, 50, 0x01020304);
        Check.answers("a length of two bytes", 45054, () -> wide.write(0, BMP, 0));
        Check.due("that length", wide.word(0), 0x424DFEAF00000000L);
        Check.due("a width of two bytes", wide.word(18), 0x2C01000032000000L);
    }

    private static void usedColours() {
        Check.sentence("Mode 1: depth 8, packing 1, colours in the order in which they come, row by row from the top,"
                + " USED how many");
        for (int n : new int[] {1, 2, 3, 255, 256}) {
            int[] points = colours(n);
            writesRuns(n + " colours", n, points);
            writesRuns(n + " colours in a column", 1, points);
            PictureDesk desk = Desks.holding(n, points);
            desk.write(0, BMP, 1);
            Check.due("USED of " + n, desk.word(46) >>> 32, Integer.toUnsignedLong(Integer.reverseBytes(n)));
            Check.due("START of " + n, desk.word(10) >>> 32, Integer.toUnsignedLong(Integer.reverseBytes(54 + 4 * n)));
        }
        PictureDesk desk = Desks.holding(1, 0x010101FF, 0x020202FF, 0x01010100);
        Check.answers("bytes of a column", 54 + 8 + 12, () -> desk.write(0, BMP, 1));
        Check.due("colours from the top", desk.word(54), 0x0101010002020200L);
        Check.due("rows from the bottom", desk.word(62), 0x0100000001010000L);
        Check.due("the last row and the end", desk.word(70), 0x0100000100000000L);
    }

    private static void runs() {
        Check.sentence("each row from the bottom: as long as can be, up to 255, n v");
        for (int width : new int[] {1, 2, 254, 255, 256, 257, 509, 510, 511, 765, 766}) {
            int[] points = new int[2 * width];
            Arrays.fill(points, 0x010203FF);
            writesRuns("one colour, width " + width, width, points);
            PictureDesk desk = Desks.holding(width, points);
            int pairs = (width + 254) / 255;
            Check.answers("bytes, width " + width, 58 + 2 * (2 * pairs + 2), () -> desk.write(0, BMP, 1));
            Check.due("the first pair, width " + width, desk.word(58) >>> 48, Math.min(width, 255) << 8);
            points[width / 2] = 0;
            points[width] = 0;
            points[2 * width - 1] = 0;
            writesRuns("two colours, width " + width, width, points);
        }
        writesRuns("no run over a row's end", 2, 5, 5, 0xFF05, 5);
        writesRuns("single points", 4, 0x100, 0x200, 0x100, 0x200);
    }

    private static void rowEnds() {
        Check.sentence("0 0 behind each but the last; 0 1");
        for (int height = 1; height <= 5; height++) {
            PictureDesk desk = new PictureDesk();
            desk.make(0, 1, height, 9);
            desk.write(0, BMP, 1);
            byte[] file = Desks.result(desk);
            Check.due("bytes, height " + height, file.length, 58 + 4 * height);
            for (int row = 0; row < height; row++) {
                int at = 58 + 4 * row;
                Check.due("a run", file[at] << 8 | file[at + 1], 256);
                Check.due("behind row " + row + " of " + height, file[at + 2] << 8 | file[at + 3], row < height - 1 ? 0 : 1);
            }
        }
    }
}
