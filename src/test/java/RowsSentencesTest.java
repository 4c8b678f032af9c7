import java.io.ByteArrayOutputStream;
import java.util.Arrays;

/** What "Terms" says of the ROWS that a PNG's ZLIB gives. */
public final class RowsSentencesTest {
    private static final int[] EDGES = {0, 1, 2, 126, 127, 128, 129, 254, 255};

    public static void main(String[] args) {
        justTheRows();
        passes();
        filterByte();
        wholeBytes();
        noneThere();
        pointBefore();
        filters();
        nearest();
        numbers();
        colours();
        Check.finish();
    }

    private static byte[] file(byte[] head, int... rows) {
        return Pngs.file(head, Pngs.data(Pngs.zlib(rows)));
    }

    private static int grey(int v) {
        return (v & 255) * 0x01010100 | 255;
    }

    private static int[] greys(int... values) {
        return Arrays.stream(values).map(RowsSentencesTest::grey).toArray();
    }

    private static void justTheRows() {
        Check.sentence("What it gives is just the ROWS");
        byte[] head = Pngs.header(2, 2, 8, 0, 0);
        int[] rows = {0, 1, 2, 0, 3, 4};
        Desks.reads("just the rows", file(head, rows), 0, 2, greys(1, 2, 3, 4));
        for (int n = 0; n < 6; n++) {
            Desks.refuses("the first " + n, Desks.BROKEN, file(head, Arrays.copyOf(rows, n)));
        }
        Desks.refuses("a byte more", Desks.BROKEN, file(head, Arrays.copyOf(rows, 7)));
        Desks.refuses("a row more", Desks.BROKEN, file(head, Arrays.copyOf(rows, 9)));
        Desks.refuses("many more", Desks.BROKEN, file(head, Arrays.copyOf(rows, 200000)));
        byte[] more = Desks.bytes(0, 1, 2, 0, 3, 4, 0);
        Desks.refuses("a stored byte more", Desks.BROKEN, Pngs.file(head, Pngs.data(Pngs.zlib(more, 0, 0))));
        byte[] stored = Pngs.zlib(Arrays.copyOf(more, 6), 0, 0);
        Desks.reads("stored ones", Pngs.file(head, Pngs.data(stored)), 0, 2, greys(1, 2, 3, 4));
        byte[] passes = Pngs.header(2, 2, 8, 0, 1);
        Desks.reads("in passes", file(passes, 0, 1, 0, 2, 0, 3, 4), 0, 2, greys(1, 2, 3, 4));
        Desks.refuses("in passes, a byte less", Desks.BROKEN, file(passes, 0, 1, 0, 2, 0, 3));
        Desks.refuses("in passes, a byte more", Desks.BROKEN, file(passes, 0, 1, 0, 2, 0, 3, 4, 0));
        Desks.refuses("no passes where there are some", Desks.BROKEN, file(passes, 0, 1, 2, 0, 3, 4));
        mostRows();
    }

    /** The most that rows can have, 16384 times nine bytes, and more: there is no room for those anywhere. */
    private static void mostRows() {
        int n = 9 * 16384;
        for (int interlace = 0; interlace <= 1; interlace++) {
            byte[] head = Pngs.header(1, 16384, 16, 6, interlace);
            byte[] just = Pngs.zlibRound(Deflates.end(Deflates.block(zeros(n), 1, 1)).bytes(), new byte[n]);
            Desks.reads("the most", Pngs.file(head, Pngs.data(just)), 0, 1, new int[16384]);
            Desks.Bits[] more = {
                Deflates.end(Deflates.block(zeros(n), 1, 1).code(Deflates.fixedCode(0))),
                Deflates.stored(zeros(n), 1, 1).number(0, 8),
                Deflates.end(Deflates.block(zeros(n), 1, 1).code(Deflates.fixedCode(257)).code("00000")),
                Deflates.end(Deflates.block(zeros(n), 1, 1).code(Deflates.fixedCode(285)).code("00000")),
                Deflates.end(Deflates.block(zeros(n - 257), 1, 1).code(Deflates.fixedCode(285)).code("00000")),
                Deflates.stored(zeros(n), 1, 20000).code("0".repeat(160000)),
            };
            int[] lengths = {1, 1, 3, 258, 1, 20000};
            for (int k = 0; k < more.length; k++) {
                byte[] zlib = Pngs.zlibRound(more[k].bytes(), new byte[n + lengths[k]]);
                Desks.refuses(lengths[k] + " more than the most, way " + k, Desks.BROKEN, Pngs.file(head, Pngs.data(zlib)));
            }
        }
    }

    /** A fixed block, not the last one, of so many zeros. */
    private static Desks.Bits zeros(int n) {
        Desks.Bits bits = Deflates.block(0, 1).code(Deflates.fixedCode(0));
        int left = n - 1;
        for (; left >= 258; left -= 258) {
            bits.code(Deflates.fixedCode(285)).code("00000");
        }
        for (; left > 0; left--) {
            bits.code(Deflates.fixedCode(0));
        }
        return Deflates.end(bits);
    }

    private static void passes() {
        Check.sentence("or with interlace 1 of its seven PASSES: from x, y 0 0, 4 0, 0 4, 2 0, 0 2, 1 0, 0 1,"
                + " each 8 8, 8 8, 4 8, 4 4, 2 4, 2 2, 1 2 (those without POINTS have no ROWS).");
        int[][] passes = {{0, 0, 8, 8}, {4, 0, 8, 8}, {0, 4, 4, 8}, {2, 0, 4, 4}, {0, 2, 2, 4}, {1, 0, 2, 2}, {0, 1, 1, 2}};
        int[] sizes = {1, 2, 3, 4, 5, 6, 7, 8, 9, 10, 12, 13, 16, 17, 21};
        for (int width : sizes) {
            for (int height : sizes) {
                ByteArrayOutputStream rows = new ByteArrayOutputStream();
                int[] due = new int[width * height];
                int v = 0;
                for (int[] pass : passes) {
                    for (int y = pass[1]; y < height && pass[0] < width; y += pass[3]) {
                        rows.write(0);
                        for (int x = pass[0]; x < width; x += pass[2]) {
                            v++;
                            rows.write(v);
                            due[y * width + x] = grey(v);
                        }
                    }
                }
                byte[] data = Pngs.data(Pngs.zlib(rows.toByteArray(), 9, 0));
                Desks.reads(width + " x " + height, Pngs.file(Pngs.header(width, height, 8, 0, 1), data), 0, width, due);
                rows.write(0);
                data = Pngs.data(Pngs.zlib(rows.toByteArray(), 9, 0));
                Desks.refuses(width + " x " + height + " and a row of none", Desks.BROKEN,
                        Pngs.file(Pngs.header(width, height, 8, 0, 1), data));
            }
        }
    }

    private static void filterByte() {
        Check.sentence("A ROW: a byte 0 .. 4, then its POINTS");
        byte[] head = Pngs.header(1, 2, 8, 0, 0);
        for (int filter = 0; filter < 256; filter++) {
            byte[] first = file(head, filter, 7, 0, 9);
            byte[] last = file(head, 0, 0, filter, 9);
            if (filter <= 4) {
                Desks.reads("byte " + filter + " of the first row", first, 0, 1, greys(7, 9));
                Desks.reads("byte " + filter + " of the last row", last, 0, 1, greys(0, 9));
            } else {
                Desks.refuses("byte " + filter + " of the first row", Desks.BROKEN, first);
                Desks.refuses("byte " + filter + " of the last row", Desks.BROKEN, last);
            }
        }
        Desks.refuses("byte 5 of the last pass", Desks.BROKEN, file(Pngs.header(1, 2, 8, 0, 1), 0, 1, 5, 2));
    }

    private static void wholeBytes() {
        Check.sentence("depth bits for each number, the highest bits first, whole bytes");
        for (int depth : new int[] {1, 2, 4}) {
            int most = (1 << depth) - 1;
            for (int width = 1; width <= 17; width++) {
                byte[] rows = new byte[2 * (1 + (width * depth + 7) / 8)];
                // Bits that are no point's are all set, and count for nothing.
                Arrays.fill(rows, (byte) 255);
                rows[0] = 0;
                rows[rows.length / 2] = 0;
                int[] due = new int[2 * width];
                for (int i = 0; i < 2 * width; i++) {
                    int number = (i * 5 + i / 3) & most;
                    int bit = i % width * depth;
                    int at = i / width * rows.length / 2 + 1 + bit / 8;
                    int shift = 8 - depth - bit % 8;
                    rows[at] = (byte) (rows[at] & ~(most << shift) | number << shift);
                    due[i] = grey(number * 255 / most);
                }
                byte[] png = Pngs.file(Pngs.header(width, 2, depth, 0, 0), Pngs.data(Pngs.zlib(rows, 9, 0)));
                Desks.reads("depth " + depth + ", width " + width, png, 0, width, due);
            }
        }
    }

    private static void noneThere() {
        Check.sentence("(0 where there is none; the first ROW of a PASS has none above)");
        byte[] head = Pngs.header(2, 1, 8, 0, 0);
        Desks.reads("1 in the first row", file(head, 1, 10, 20), 0, 2, greys(10, 30));
        Desks.reads("2 in the first row", file(head, 2, 10, 20), 0, 2, greys(10, 20));
        Desks.reads("3 in the first row", file(head, 3, 10, 20), 0, 2, greys(10, 25));
        Desks.reads("4 in the first row", file(head, 4, 10, 20), 0, 2, greys(10, 30));
        byte[] down = Pngs.header(1, 2, 8, 0, 0);
        Desks.reads("1 in the first column", file(down, 0, 10, 1, 20), 0, 1, greys(10, 20));
        Desks.reads("2 in the first column", file(down, 0, 10, 2, 20), 0, 1, greys(10, 30));
        Desks.reads("3 in the first column", file(down, 0, 10, 3, 20), 0, 1, greys(10, 25));
        Desks.reads("4 in the first column", file(down, 0, 10, 4, 20), 0, 1, greys(10, 30));
        byte[] wide = Pngs.header(2, 2, 8, 0, 0);
        Desks.reads("a row does not go on from the one above", file(wide, 0, 1, 100, 1, 7, 1), 0, 2, greys(1, 100, 7, 8));
        for (int filter = 2; filter <= 4; filter++) {
            int second = filter == 3 ? 24 : 34;
            // 1 x 2: pass 1 has the first row, pass 7 the second. 2 x 2: passes 1, 6 and 7.
            Desks.reads(filter + " in the last pass", file(Pngs.header(1, 2, 8, 0, 1), 0, 200, filter, 7), 0, 1, greys(200, 7));
            int[] due = greys(200, 100, 20, filter == 2 ? 14 : second);
            Desks.reads(filter + " in each pass", file(Pngs.header(2, 2, 8, 0, 1), filter, 200, filter, 100, filter, 20, 14),
                    0, 2, due);
        }
        // 1 x 4: pass 5 has row 2, and pass 7 has rows 1 and 3, of which the second has the first above.
        Desks.reads("a pass of two rows", file(Pngs.header(1, 4, 8, 0, 1), 2, 9, 2, 50, 2, 3, 2, 4), 0, 1, greys(9, 3, 50, 7));
    }

    private static void pointBefore() {
        Check.sentence("a the one so many bytes before as a POINT has (1 at least)");
        int[][] kinds = {{0, 1, 1}, {0, 2, 1}, {0, 4, 1}, {0, 8, 1}, {0, 16, 2}, {2, 8, 3}, {2, 16, 6}, {4, 8, 2}, {4, 16, 4},
            {6, 8, 4}, {6, 16, 8}};
        for (int[] kind : kinds) {
            int step = kind[2];
            int width = kind[1] < 8 ? 3 * 8 / kind[1] : 3;
            byte[] raw = new byte[3 * step];
            byte[] filtered = new byte[1 + raw.length];
            byte[] plain = new byte[1 + raw.length];
            filtered[0] = 1;
            for (int k = 0; k < raw.length; k++) {
                raw[k] = (byte) (37 * k + 90);
                filtered[1 + k] = (byte) (raw[k] - (k >= step ? raw[k - step] : 0));
                plain[1 + k] = raw[k];
            }
            byte[] head = Pngs.header(width, 1, kind[1], kind[0], 0);
            int due = hashOf(Pngs.file(head, Pngs.data(Pngs.zlib(plain, 9, 0))));
            int got = hashOf(Pngs.file(head, Pngs.data(Pngs.zlib(filtered, 9, 0))));
            Check.due("kind " + kind[0] + ", depth " + kind[1], got, due);
        }
    }

    private static int hashOf(byte[] file) {
        PictureDesk desk = new PictureDesk();
        Desks.load(desk, file);
        desk.read(0);
        return desk.hash(0);
    }

    /** The last of four points, told by that filter as x, where c b stand above and a before it. */
    private static void lastPoint(String what, int filter, int[] abc, int x, int due) {
        byte[] png = file(Pngs.header(2, 2, 8, 0, 0), 0, abc[2], abc[1], filter, abc[0] - first(filter, abc[2]), x);
        Desks.reads(what + Arrays.toString(abc), png, 0, 2, greys(abc[2], abc[1], abc[0], due));
    }

    /** What the filter takes off the first point of the second row, which has only c above it. */
    private static int first(int filter, int c) {
        return filter == 2 || filter == 4 ? c : filter == 3 ? c / 2 : 0;
    }

    private static void filters() {
        Check.sentence("x is told as: 0 x, 1 x - a, 2 x - b, 3 x - (a + b) / 2");
        for (int a : EDGES) {
            for (int b : EDGES) {
                int[] abc = {a, b, 60};
                for (int x : new int[] {0, 1, 127, 128, 255}) {
                    lastPoint("0 of ", 0, abc, x, x);
                    lastPoint("1 of ", 1, abc, x - a, x);
                    lastPoint("2 of ", 2, abc, x - b, x);
                    lastPoint("3 of ", 3, abc, x - (a + b) / 2, x);
                }
            }
        }
    }

    private static void nearest() {
        Check.sentence("4 x - whichever of a, b, c is nearest to a + b - c (the first of them)");
        for (int a : EDGES) {
            for (int b : EDGES) {
                for (int c : EDGES) {
                    int aim = a + b - c;
                    int told = a;
                    told = Math.abs(aim - b) < Math.abs(aim - told) ? b : told;
                    told = Math.abs(aim - c) < Math.abs(aim - told) ? c : told;
                    lastPoint("4 of ", 4, new int[] {a, b, c}, 200 - told, 200);
                }
            }
        }
        // Two of them are as near as each other, and the third one is farther off.
        lastPoint("c between a and b, ", 4, new int[] {10, 30, 20}, 1, 21);
        lastPoint("c between b and a, ", 4, new int[] {30, 10, 20}, 1, 21);
        lastPoint("a before c, ", 4, new int[] {50, 20, 30}, 1, 51);
        lastPoint("b before c, ", 4, new int[] {70, 40, 60}, 1, 41);
        lastPoint("b, ", 4, new int[] {20, 50, 21}, 1, 51);
        lastPoint("c, ", 4, new int[] {10, 30, 19}, 1, 20);
    }

    private static void numbers() {
        Check.sentence("Numbers of depth 1, 2, 4 are times 255, 85, 17; of 16 the higher byte (tRNS asks all)");
        Desks.reads("depth 1", file(Pngs.header(2, 1, 1, 0, 0), 0, 64), 0, 2, greys(0, 255));
        Desks.reads("depth 2", file(Pngs.header(4, 1, 2, 0, 0), 0, 0b00011011), 0, 4, greys(0, 85, 170, 255));
        int[] due = new int[16];
        int[] row = new int[9];
        for (int v = 0; v < 16; v++) {
            due[v] = grey(17 * v);
            row[1 + v / 2] |= v << 4 - v % 2 * 4;
        }
        Desks.reads("depth 4", file(Pngs.header(16, 1, 4, 0, 0), row), 0, 16, due);
        Desks.reads("depth 16", file(Pngs.header(4, 1, 16, 0, 0), 0, 0, 255, 1, 0, 255, 0, 255, 255), 0, 4, greys(0, 1, 255, 255));
        Desks.reads("grey and alpha of 16", file(Pngs.header(2, 1, 16, 4, 0), 0, 200, 255, 100, 255, 0, 255, 255, 0), 0, 2,
                0xC8C8C864, 0x000000FF);
        Desks.reads("RGB of 16", file(Pngs.header(1, 1, 16, 2, 0), 0, 255, 0, 128, 255, 1, 7), 0, 1, 0xFF8001FF);
        Desks.reads("RGBA of 16", file(Pngs.header(1, 1, 16, 6, 0), 0, 255, 0, 128, 255, 1, 7, 0, 255), 0, 1, 0xFF800100);
        byte[] trns = Pngs.part("tRNS", Desks.bytes(255, 254));
        byte[] data = Pngs.data(Pngs.zlib(0, 255, 255, 255, 254));
        Desks.reads("tRNS of 16", Pngs.file(Pngs.header(2, 1, 16, 0, 0), trns, data), 0, 2, -1, 0xFFFFFF00);
    }

    private static void colours() {
        Check.sentence("a palette's index has a colour");
        byte[] plte = Pngs.part("PLTE", Desks.bytes(1, 1, 1, 2, 2, 2, 3, 3, 3));
        for (int depth : new int[] {2, 4, 8}) {
            for (int interlace = 0; interlace <= 1; interlace++) {
                byte[] head = Pngs.header(1, 1, depth, 3, interlace);
                int most = (1 << depth) - 1;
                for (int index : new int[] {0, 1, 2, 3, most}) {
                    byte[] data = Pngs.data(Pngs.zlib(0, index << 8 - depth));
                    String what = "index " + index + ", depth " + depth;
                    if (index < 3) {
                        Desks.reads(what, Pngs.file(head, plte, data), 0, 1, grey(index + 1));
                    } else {
                        Desks.refuses(what, Desks.BROKEN, Pngs.file(head, plte, data));
                    }
                }
            }
        }
        byte[] one = Pngs.part("PLTE", Desks.bytes(9, 9, 9));
        byte[] bit = Pngs.header(1, 1, 1, 3, 0);
        Desks.refuses("index 1 of one colour", Desks.BROKEN, Pngs.file(bit, one, Pngs.data(Pngs.zlib(0, 128))));
        Desks.reads("bits behind a row have none", Pngs.file(bit, one, Pngs.data(Pngs.zlib(0, 127))), 0, 1, grey(9));
        byte[] last = Pngs.data(Pngs.zlib(0, 0, 0, 3));
        Desks.refuses("the last point of two rows", Desks.BROKEN, Pngs.file(Pngs.header(1, 2, 8, 3, 0), plte, last));
        PictureDesk desk = new PictureDesk();
        Desks.load(desk, Pngs.file(Pngs.header(1, 1, 8, 3, 0), Pngs.part("PLTE", new byte[768]), Pngs.data(Pngs.zlib(0, 255))));
        Check.answers("index 255 of 256", 0, () -> desk.read(0));
        Desks.load(desk, Pngs.file(Pngs.header(1, 1, 8, 3, 0), plte, Pngs.data(Pngs.zlib(0, 3))));
        Check.refuses("index 3 of 3, behind a file of 256", Desks.BROKEN, () -> desk.read(0));
    }
}
