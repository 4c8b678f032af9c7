import java.util.Arrays;

/** What "Terms" says of BMP files. */
public final class BmpSentencesTest {
    private static final byte[] DOT = Desks.bytes(1, 2, 3, 4);
    private static final byte[] FILE = Bmps.plain(1, 1, DOT);
    private static final int POINT = 0x030201FF;

    public static void main(String[] args) {
        letters();
        length();
        forty();
        width();
        height();
        one();
        depth();
        packing();
        used();
        usedByOthers();
        colours();
        start();
        rows();
        runs();
        nextRow();
        end();
        moves();
        singles();
        beyond();
        leftOut();
        indices();
        alpha();
        Check.finish();
    }

    /** The file with other numbers of four bytes, the lowest first, in that place. */
    private static void wrong4(String what, byte[] file, int at, int... numbers) {
        for (int number : numbers) {
            Desks.refuses(what + " " + number, Desks.BROKEN, Desks.with(file, at, number, number >> 8, number >> 16, number >> 24));
        }
    }

    private static void letters() {
        Check.sentence("\"BM\"");
        Desks.reads("BM", FILE, 2, 1, POINT);
        for (int second : new int[] {'L', 'N', 'm', 'A', 'P', 0, 255}) {
            Desks.refuses("B and " + second, Desks.BROKEN, Desks.with(FILE, 1, second));
        }
        Desks.refuses("B alone", Desks.BROKEN, Desks.bytes('B'));
    }

    private static void length() {
        Check.sentence("length of the file (4)");
        wrong4("length", FILE, 2, 57, 59, 0, -1, 54, 58 + 256, 58 + 65536, 58 + (1 << 24), 58 + (1 << 31), 58 << 8, -58);
        Desks.reads("58", FILE, 2, 1, POINT);
        byte[] high = Bmps.plain(1, 16366, new byte[4 * 16366]);
        int[] due = new int[16366];
        Arrays.fill(due, 255);
        Check.due("bytes of a file of two bytes' length", high.length, 65518);
        Desks.reads("65518", high, 2, 1, due);
        wrong4("length", high, 2, 65517, 65519, 65518 & 255, 65518 + 65536, 65518 | -65536);
    }

    private static void forty() {
        Check.sentence("40 (4)");
        wrong4("40 as", FILE, 14, 0, 12, 39, 41, 52, 64, 108, 124, 40 + 256, 40 + 65536, 40 + (1 << 24), -40, 40 << 8);
    }

    private static void width() {
        Check.sentence("width (4, below 2^31)");
        wrong4("width", FILE, 18, 0, -1, Integer.MIN_VALUE, Integer.MIN_VALUE + 1, -16384);
        int most = Integer.MAX_VALUE;
        Desks.refuses("2^31 - 1", Desks.TOO_LARGE, Bmps.plain(most, 1, DOT));
        Desks.refuses("2^31 - 1, from the top", Desks.TOO_LARGE, Bmps.plain(most, -1, DOT));
        Desks.refuses("-1, and a height below 0", Desks.BROKEN, Bmps.plain(-1, -1, DOT));
        Desks.refuses("2^31, and a height too large", Desks.BROKEN, Bmps.plain(Integer.MIN_VALUE, 20000, DOT));
    }

    private static void height() {
        Check.sentence("height (4, with sign; not 0; below 0: rows from the top, else from the bottom)");
        byte[] two = Desks.bytes(1, 1, 1, 0, 2, 2, 2, 0);
        Desks.reads("2", Bmps.plain(1, 2, two), 2, 1, 0x020202FF, 0x010101FF);
        Desks.reads("-2", Bmps.plain(1, -2, two), 2, 1, 0x010101FF, 0x020202FF);
        Desks.reads("1", FILE, 2, 1, POINT);
        Desks.reads("-1", Bmps.plain(1, -1, DOT), 2, 1, POINT);
        Desks.refuses("0", Desks.BROKEN, Bmps.plain(1, 0, DOT));
        Desks.refuses("0 and no rows", Desks.BROKEN, Bmps.plain(1, 0, Bmps.NONE));
        Desks.refuses("-2^31", Desks.TOO_LARGE, Bmps.plain(1, Integer.MIN_VALUE, DOT));
        Desks.refuses("-2^31, width 2", Desks.TOO_LARGE, Bmps.plain(2, Integer.MIN_VALUE, DOT));
        Desks.refuses("-2^31 + 1", Desks.TOO_LARGE, Bmps.plain(1, Integer.MIN_VALUE + 1, DOT));
        Desks.refuses("2^31 - 1", Desks.TOO_LARGE, Bmps.plain(1, Integer.MAX_VALUE, DOT));
        Desks.refuses("-16385", Desks.TOO_LARGE, Bmps.plain(1, -16385, DOT));
        int[] white = new int[16384];
        Arrays.fill(white, -1);
        byte[] bits = new byte[16384 / 8];
        byte[] wide = Bmps.file(16384, -1, 1, 0, 0, Desks.bytes(255, 255, 255, 255, 0, 0, 0, 0), bits);
        Desks.reads("-1, of 16384 points", wide, 2, 16384, white);
    }

    private static void one() {
        Check.sentence("1 (2)");
        for (int wrong : new int[] {0, 2, 3, 255}) {
            Desks.refuses("1 as " + wrong, Desks.BROKEN, Desks.with(FILE, 26, wrong));
        }
        Desks.refuses("1 as 257", Desks.BROKEN, Desks.with(FILE, 27, 1));
        Desks.refuses("1 as 256", Desks.BROKEN, Desks.with(FILE, 26, 0, 1));
    }

    private static void depth() {
        Check.sentence("depth 1, 4, 8, 24, 32 (2)");
        for (int depth = 0; depth <= 66; depth++) {
            boolean isTable = depth == 1 || depth == 4 || depth == 8;
            boolean isRight = isTable || depth == 24 || depth == 32;
            byte[] colours = new byte[isTable ? 4 << depth : 0];
            byte[] file = Bmps.file(1, 1, depth, 0, 0, colours, new byte[(depth + 31) / 32 * 4]);
            if (isRight) {
                Desks.reads("depth " + depth, file, 2, 1, 255);
            } else {
                Desks.refuses("depth " + depth, Desks.BROKEN, file);
            }
        }
        Desks.refuses("24 and 256", Desks.BROKEN, Desks.with(FILE, 29, 1));
        Desks.refuses("24 and 32768", Desks.BROKEN, Desks.with(FILE, 29, 128));
    }

    private static void packing() {
        Check.sentence("packing (4): 0, or 1 if depth is 8 and height above 0");
        byte[] runs = Desks.bytes(1, 1, 0, 1);
        Desks.reads("1", Bmps.file(1, 1, 8, 1, 3, Bmps.THREE, runs), 2, 1, Bmps.COLOURS[1]);
        Desks.reads("0", Bmps.file(1, 1, 8, 0, 3, Bmps.THREE, runs), 2, 1, Bmps.COLOURS[1]);
        Desks.reads("0 from the top", Bmps.file(1, -1, 8, 0, 3, Bmps.THREE, runs), 2, 1, Bmps.COLOURS[1]);
        Desks.refuses("1 from the top", Desks.BROKEN, Bmps.file(1, -1, 8, 1, 3, Bmps.THREE, runs));
        Desks.refuses("1 of depth 1", Desks.BROKEN, Bmps.file(1, 1, 1, 1, 2, new byte[8], runs));
        Desks.refuses("1 of depth 4", Desks.BROKEN, Bmps.file(1, 1, 4, 1, 3, Bmps.THREE, runs));
        Desks.refuses("1 of depth 24", Desks.BROKEN, Bmps.file(1, 1, 24, 1, 0, Bmps.NONE, runs));
        Desks.refuses("1 of depth 32", Desks.BROKEN, Bmps.file(1, 1, 32, 1, 0, Bmps.NONE, runs));
        Desks.refuses("1 from the top, too large", Desks.BROKEN, Bmps.file(200, -200, 8, 1, 3, Bmps.THREE, runs));
        for (int depth : new int[] {1, 4, 8, 24, 32}) {
            byte[] colours = new byte[depth <= 8 ? 4 << depth : 0];
            wrong4("depth " + depth + ", packing", Bmps.file(1, 1, depth, 0, 0, colours, runs), 30, 2, 3, 4, 255, 256, 257,
                    1 << 16, 1 << 24, -1, Integer.MIN_VALUE);
        }
    }

    private static void used() {
        Check.sentence("USED (4): 0 .. 2^depth, 0 is 2^depth");
        for (int depth : new int[] {1, 4, 8}) {
            int most = 1 << depth;
            byte[] row = Desks.bytes(most - 1 << 8 - depth, 0, 0, 0);
            byte[] all = Desks.with(new byte[4 * most], 4 * most - 4, 7, 8, 9, 10);
            Desks.reads("0, depth " + depth, Bmps.file(1, 1, depth, 0, 0, all, row), 2, 1, 0x090807FF);
            Desks.reads("2^depth, depth " + depth, Bmps.file(1, 1, depth, 0, most, all, row), 2, 1, 0x090807FF);
            Desks.reads("1, depth " + depth, Bmps.file(1, 1, depth, 0, 1, DOT, new byte[4]), 2, 1, POINT);
            Desks.refuses("0, a colour less, depth " + depth, Desks.BROKEN,
                    Bmps.file(1, 1, depth, 0, 0, Arrays.copyOf(all, 4 * most - 4), row));
            for (int wrong : new int[] {most + 1, -1, Integer.MIN_VALUE, Integer.MAX_VALUE, 256 + most, 1 << 16, 1 << 24}) {
                byte[] more = Arrays.copyOf(all, 4 * Math.min(most + 1, 300));
                Desks.refuses(wrong + ", depth " + depth, Desks.BROKEN, Bmps.file(1, 1, depth, 0, wrong, more, row));
            }
            byte[] less = Arrays.copyOf(all, 4 * most - 4);
            Desks.refuses("2^depth - 1 and the last index, depth " + depth, Desks.BROKEN,
                    Bmps.file(1, 1, depth, 0, most - 1, less, row));
        }
        Desks.reads("0 in runs", Bmps.file(1, 1, 8, 1, 0, new byte[1024], Desks.bytes(1, 255, 0, 1)), 2, 1, 255);
        Desks.reads("256 in runs", Bmps.file(1, 1, 8, 1, 256, new byte[1024], Desks.bytes(1, 255, 0, 1)), 2, 1, 255);
    }

    private static void usedByOthers() {
        Check.sentence("(others: USED 0)");
        for (int depth : new int[] {24, 32}) {
            for (int used : new int[] {1, 2, 256, -1, Integer.MIN_VALUE, 1 << 24}) {
                Desks.refuses(used + ", depth " + depth, Desks.BROKEN, Bmps.file(1, 1, depth, 0, used, Bmps.NONE, DOT));
                Desks.refuses(used + " with colours, depth " + depth, Desks.BROKEN, Bmps.file(1, 1, depth, 0, used, DOT, DOT));
            }
            Desks.reads("0, depth " + depth, Bmps.file(1, 1, depth, 0, 0, Bmps.NONE, DOT), 2, 1, POINT);
        }
    }

    private static void colours() {
        Check.sentence("depths 1, 4, 8: so many colours B, G, R and a byte");
        byte[] row = Desks.bytes(1, 0, 2, 0);
        Desks.reads("three", Bmps.file(3, 1, 8, 0, 3, Bmps.THREE, row), 2, 3, Bmps.colours(1, 0, 2));
        for (int n = 0; n < 12; n++) {
            byte[] cut = Arrays.copyOf(Bmps.THREE, n);
            byte[] file = Desks.join(Bmps.head(54 + n, 54 + n, 1, 1, 8, 0, 3), cut);
            Desks.refuses("the first " + n + " bytes of them", Desks.BROKEN, file);
        }
    }

    private static void start() {
        Check.sentence("At START, not before here, what follows up to the end of the file.");
        for (int gap : new int[] {0, 1, 2, 3, 4, 100, 60000}) {
            byte[] between = new byte[gap];
            Arrays.fill(between, (byte) 7);
            byte[] file = Desks.join(Bmps.head(58 + gap, 54 + gap, 1, 1, 24, 0, 0), between, DOT);
            Desks.reads("a gap of " + gap, file, 2, 1, POINT);
            byte[] less = Desks.join(Bmps.head(58 + gap, 53 + gap, 1, 1, 24, 0, 0), between, DOT);
            Desks.refuses("a gap of " + gap + ", START one less", Desks.BROKEN, less);
            byte[] more = Desks.join(Bmps.head(58 + gap, 55 + gap, 1, 1, 24, 0, 0), between, DOT);
            Desks.refuses("a gap of " + gap + ", START one more", Desks.BROKEN, more);
        }
        Desks.refuses("before the colours", Desks.BROKEN, Desks.join(Bmps.head(57, 53, 1, 1, 24, 0, 0), Desks.bytes(1, 2, 3)));
        wrong4("START", FILE, 10, 0, 1, 50, 53, 55, 58, 59, -1, Integer.MIN_VALUE, Integer.MAX_VALUE, 54 + 256, 54 + 65536,
                54 + (1 << 24), Integer.MIN_VALUE + 54);
        byte[] table = Desks.join(Bmps.head(70, 66, 1, 1, 8, 0, 3), Bmps.THREE, Desks.bytes(2, 0, 0, 0));
        Desks.reads("behind three colours", table, 2, 1, Bmps.COLOURS[2]);
        for (int start : new int[] {54, 58, 62, 65, 67, 70}) {
            Desks.refuses("START " + start + " where colours end at 66", Desks.BROKEN, Desks.with(table, 10, start));
        }
        byte[] within = Desks.join(Bmps.head(66, 62, 1, 1, 8, 0, 3), Desks.with(Bmps.THREE, 8, 0));
        Desks.refuses("the last colour as a row", Desks.BROKEN, within);
        byte[] runs = Desks.join(Bmps.head(71, 67, 1, 1, 8, 1, 3), Bmps.THREE, Desks.bytes(9, 1, 1, 0, 1));
        Desks.reads("a gap before runs", runs, 2, 1, Bmps.COLOURS[1]);
    }

    private static void rows() {
        Check.sentence("Packing 0: rows, each a multiple of 4 bytes: depth bits for each, the highest first, indices;"
                + " or B, G, R (and a byte).");
        for (int depth : new int[] {1, 4, 8, 24, 32}) {
            int colours = depth <= 8 ? 1 << depth : 0;
            byte[] table = new byte[4 * colours];
            for (int k = 0; k < colours; k++) {
                table[4 * k] = (byte) (k + 1);
            }
            for (int width = 1; width <= 40; width++) {
                int n = (width * depth + 31) / 32 * 4;
                byte[] row = new byte[n];
                // What fills a row is all ones, and counts for nothing.
                Arrays.fill(row, (byte) 255);
                int[] due = new int[width];
                for (int x = 0; x < width; x++) {
                    int value = depth <= 8 ? x % colours : x * 5 + 1;
                    layValue(row, depth, x, value);
                    due[x] = (depth <= 8 ? value + 1 : value) << 8 & 0xFF00 | 255;
                }
                String what = "depth " + depth + ", width " + width;
                Desks.reads(what, Bmps.file(width, 1, depth, 0, 0, table, row), 2, width, due);
                Desks.refuses(what + ", a byte less", Desks.BROKEN,
                        Bmps.file(width, 1, depth, 0, 0, table, Arrays.copyOf(row, n - 1)));
                Desks.refuses(what + ", a byte more", Desks.BROKEN,
                        Bmps.file(width, 1, depth, 0, 0, table, Arrays.copyOf(row, n + 1)));
                Desks.refuses(what + ", 4 bytes more", Desks.BROKEN,
                        Bmps.file(width, 1, depth, 0, 0, table, Arrays.copyOf(row, n + 4)));
            }
        }
        Desks.refuses("a row too few", Desks.BROKEN, Bmps.plain(1, 2, new byte[4]));
        Desks.refuses("a row too many", Desks.BROKEN, Bmps.plain(1, 2, new byte[12]));
        Desks.refuses("no rows", Desks.BROKEN, Bmps.plain(1, 1, Bmps.NONE));
    }

    private static void layValue(byte[] row, int depth, int x, int value) {
        if (depth > 8) {
            int at = x * depth / 8;
            row[at] = (byte) value;
            row[at + 1] = 0;
            row[at + 2] = 0;
            return;
        }
        int shift = 8 - depth - x * depth % 8;
        int at = x * depth / 8;
        row[at] = (byte) (row[at] & ~((1 << depth) - 1 << shift) | value << shift);
    }

    private static void runs() {
        Check.sentence("Packing 1: pairs n v: n times v");
        Bmps.runsGive("of 1", 1, new int[] {1, 2, 0, 1}, 2);
        Bmps.runsGive("several", 4, new int[] {2, 1, 1, 2, 1, 0, 0, 1}, 1, 1, 2, 0);
        int[] wide = new int[300];
        Arrays.fill(wide, 0, 255, 1);
        Arrays.fill(wide, 255, 300, 2);
        Bmps.runsGive("of 255", 300, new int[] {255, 1, 45, 2, 0, 1}, wide);
        Bmps.runsBroken("half a pair", 1, 1, 1);
        Bmps.runsBroken("half a pair at the end", 1, 1, 1, 1, 0);
        Bmps.runsBroken("no pair", 1, 1);
    }

    private static void nextRow() {
        Check.sentence("0 0: the next row");
        Bmps.runsGive("behind a row", 2, new int[] {2, 1, 0, 0, 2, 2, 0, 1}, 2, 2, 1, 1);
        Bmps.runsGive("within a row", 2, new int[] {1, 1, 0, 0, 2, 2, 0, 1}, 2, 2, 1, 0);
        Bmps.runsGive("at a row's beginning", 2, new int[] {0, 0, 2, 2, 0, 1}, 2, 2, 0, 0);
        Bmps.runsGive("behind the last row", 2, new int[] {0, 0, 2, 2, 0, 0, 0, 1}, 2, 2, 0, 0);
        Bmps.runsBroken("a full row does not go on", 2, 2, 2, 1, 2, 2, 0, 1);
    }

    private static void end() {
        Check.sentence("0 1: the end");
        Bmps.runsGive("at once", 3, new int[] {0, 1}, 0, 0, 0, 0, 0, 0);
        Bmps.runsGive("within a row", 3, new int[] {1, 2, 0, 1}, 0, 0, 0, 2, 0, 0);
        Bmps.runsBroken("none", 2, 1, 2, 1);
        Bmps.runsBroken("none, but a row's end", 2, 1, 2, 1, 0, 0);
        Bmps.runsBroken("none, and nothing", 2, 1);
        Bmps.runsBroken("a byte behind it", 2, 1, 0, 1, 0);
        Bmps.runsBroken("a pair behind it", 2, 1, 0, 1, 0, 1);
        Bmps.runsBroken("a run behind it", 2, 1, 0, 1, 1, 1);
    }

    private static void moves() {
        Check.sentence("0 2 x y: so many places on, rows up");
        Bmps.runsGive("on and up", 4, new int[] {1, 1, 0, 2, 1, 1, 2, 2, 0, 1}, 0, 0, 2, 2, 1, 0, 0, 0);
        Bmps.runsGive("none", 2, new int[] {0, 2, 0, 0, 2, 1, 0, 1}, 1, 1);
        Bmps.runsGive("up alone", 3, new int[] {2, 1, 0, 2, 0, 1, 1, 2, 0, 1}, 0, 0, 2, 1, 1, 0);
        Bmps.runsGive("on alone", 3, new int[] {0, 2, 2, 0, 1, 2, 0, 1}, 0, 0, 2);
        Bmps.runsGive("up by two", 1, new int[] {0, 2, 0, 2, 1, 1, 0, 1}, 1, 0, 0);
        int[] wide = new int[256];
        wide[255] = 2;
        Bmps.runsGive("on by 255", 256, new int[] {0, 2, 255, 0, 1, 2, 0, 1}, wide);
        int[] high = new int[256];
        high[0] = 2;
        Bmps.runsGive("up by 255", 1, new int[] {0, 2, 0, 255, 1, 2, 0, 1}, high);
        Bmps.runsBroken("cut off", 2, 2, 0, 2);
        Bmps.runsBroken("cut off by half", 2, 2, 0, 2, 0);
        Bmps.runsBroken("without the end", 2, 2, 0, 2, 0, 1);
    }

    private static void singles() {
        Check.sentence("0 n, n 3 .. 255: n indices, and a byte if n is odd");
        Bmps.runsGive("3", 4, new int[] {0, 3, 2, 1, 2, 255, 1, 1, 0, 1}, 2, 1, 2, 1);
        Bmps.runsGive("4", 4, new int[] {0, 4, 0, 1, 2, 1, 0, 1}, 0, 1, 2, 1);
        for (int n : new int[] {254, 255}) {
            int[] runs = new int[2 + n + n % 2 + 2];
            int[] due = new int[n];
            runs[1] = n;
            for (int k = 0; k < n; k++) {
                due[k] = k % 3;
                runs[2 + k] = k % 3;
            }
            runs[runs.length - 1] = 1;
            Bmps.runsGive("" + n, n, runs, due);
        }
        Bmps.runsGive("a byte of 0 that is no pair's", 3, new int[] {0, 3, 2, 1, 2, 0, 0, 1}, 2, 1, 2);
        Bmps.runsBroken("3 without their byte", 3, 1, 0, 3, 1, 1, 1, 0, 1);
        Bmps.runsBroken("3 and the byte, no end", 3, 1, 0, 3, 1, 1, 1, 0);
        Bmps.runsBroken("4 with a byte more", 4, 1, 0, 4, 1, 1, 1, 1, 0, 0, 1);
        Bmps.runsBroken("4 cut off", 4, 1, 0, 4, 1, 1, 1);
    }

    private static void beyond() {
        Check.sentence("nothing comes beyond a row or the last one"
                + " (a place just behind a row, and the row behind the last one, may be come to)");
        Bmps.runsBroken("a run", 4, 2, 5, 1, 0, 1);
        Bmps.runsBroken("a run behind another", 4, 2, 3, 1, 2, 1, 0, 1);
        Bmps.runsBroken("a run of one behind a full row", 4, 2, 4, 1, 1, 1, 0, 1);
        Bmps.runsBroken("a run of 255", 4, 2, 255, 1, 0, 1);
        Bmps.runsBroken("singles", 4, 2, 2, 1, 0, 3, 1, 1, 1, 0, 0, 1);
        Bmps.runsBroken("singles behind a full row", 4, 2, 4, 1, 0, 3, 1, 1, 1, 0, 0, 1);
        Bmps.runsBroken("a move", 4, 2, 0, 2, 5, 0, 0, 1);
        Bmps.runsBroken("a move behind a run", 4, 2, 1, 1, 0, 2, 4, 0, 0, 1);
        Bmps.runsBroken("a move of one behind a full row", 4, 2, 4, 1, 0, 2, 1, 0, 0, 1);
        Bmps.runsBroken("a move of one behind a full row, and up", 4, 2, 4, 1, 0, 2, 1, 1, 0, 1);
        Bmps.runsBroken("a run in the row behind the last", 4, 2, 0, 0, 0, 0, 1, 1, 0, 1);
        Bmps.runsBroken("singles in the row behind the last", 4, 2, 0, 0, 0, 0, 0, 3, 1, 1, 1, 0, 0, 1);
        Bmps.runsBroken("a row behind that", 4, 2, 0, 0, 0, 0, 0, 0, 0, 1);
        Bmps.runsBroken("a move to a row behind that", 4, 2, 0, 2, 0, 3, 0, 1);
        Bmps.runsBroken("a move up from the row behind the last", 4, 2, 0, 0, 0, 0, 0, 2, 0, 1, 0, 1);
        Bmps.runsBroken("a move beyond the row behind the last", 4, 2, 0, 0, 0, 0, 0, 2, 5, 0, 0, 1);
        Bmps.runsGive("a move to just behind a row", 2, new int[] {0, 2, 2, 0, 0, 0, 2, 1, 0, 1}, 1, 1, 0, 0);
        Bmps.runsGive("a move of none behind a full row", 2, new int[] {2, 1, 0, 2, 0, 0, 0, 1}, 1, 1);
        Bmps.runsGive("a move up behind a full row", 2, new int[] {2, 1, 0, 2, 0, 1, 0, 0, 0, 1}, 0, 0, 1, 1);
        Bmps.runsGive("a move to the row behind the last", 2, new int[] {0, 2, 0, 2, 0, 1}, 0, 0, 0, 0);
        Bmps.runsGive("a move to just behind it", 2, new int[] {0, 2, 2, 2, 0, 1}, 0, 0, 0, 0);
        Bmps.runsGive("a move in the row behind the last", 2, new int[] {0, 0, 0, 0, 0, 2, 2, 0, 0, 1}, 0, 0, 0, 0);
        Bmps.runsGive("the row behind the last by 0 0", 2, new int[] {2, 1, 0, 0, 2, 2, 0, 0, 0, 1}, 2, 2, 1, 1);
    }

    private static void leftOut() {
        Check.sentence("places left out have index 0");
        PictureDesk desk = new PictureDesk();
        for (int s = 0; s < 4; s++) {
            Desks.load(desk, Bmps.plain(3, 2, Desks.with(new byte[24], 0, -1, -1, -1, -1, -1, -1)));
            desk.read(s);
        }
        Desks.load(desk, Bmps.runs(3, 2, 1, 1, 0, 2, 1, 0, 1, 2, 0, 1));
        Check.answers("read", 2, () -> desk.read(0));
        int[] due = Bmps.colours(0, 0, 0, 1, 0, 2);
        for (int i = 0; i < 6; i++) {
            Check.due("point " + i, desk.get(0, i % 3, i / 3), due[i]);
        }
        Bmps.runsGive("all", 3, new int[] {0, 1}, 0, 0, 0, 0, 0, 0);
        Desks.reads("of one colour", Bmps.file(2, 2, 8, 1, 1, DOT, Desks.bytes(0, 1)), 2, 2, POINT, POINT, POINT, POINT);
    }

    private static void indices() {
        Check.sentence("An index beyond the colours: BROKEN.");
        Desks.reads("the last, depth 8", Bmps.file(1, 1, 8, 0, 3, Bmps.THREE, Desks.bytes(2, 9, 9, 9)), 2, 1, Bmps.COLOURS[2]);
        Desks.refuses("depth 8", Desks.BROKEN, Bmps.file(1, 1, 8, 0, 3, Bmps.THREE, Desks.bytes(3, 0, 0, 0)));
        Desks.refuses("depth 8, 255", Desks.BROKEN, Bmps.file(1, 1, 8, 0, 3, Bmps.THREE, Desks.bytes(255, 0, 0, 0)));
        Desks.reads("the last, depth 4", Bmps.file(1, 1, 4, 0, 3, Bmps.THREE, Desks.bytes(0x2F, 255, 255, 255)), 2, 1, Bmps.COLOURS[2]);
        Desks.refuses("depth 4", Desks.BROKEN, Bmps.file(1, 1, 4, 0, 3, Bmps.THREE, Desks.bytes(0x30, 0, 0, 0)));
        Desks.refuses("depth 4, the second", Desks.BROKEN, Bmps.file(2, 1, 4, 0, 3, Bmps.THREE, Desks.bytes(0x23, 0, 0, 0)));
        Desks.reads("the last, depth 1", Bmps.file(1, 1, 1, 0, 1, DOT, Desks.bytes(127, 255, 255, 255)), 2, 1, POINT);
        Desks.refuses("depth 1", Desks.BROKEN, Bmps.file(1, 1, 1, 0, 1, DOT, Desks.bytes(128, 0, 0, 0)));
        Bmps.runsGive("the last in a run", 1, new int[] {1, 2, 0, 1}, 2);
        Bmps.runsBroken("in a run", 1, 1, 1, 3, 0, 1);
        Bmps.runsBroken("in a run, 255", 1, 1, 1, 255, 0, 1);
        Bmps.runsBroken("in singles", 4, 1, 0, 4, 0, 1, 2, 3, 0, 1);
        Bmps.runsGive("the byte behind singles is none", 3, new int[] {0, 3, 0, 1, 2, 3, 0, 1}, 0, 1, 2);
        Desks.refuses("in the last row of the file", Desks.BROKEN,
                Bmps.file(1, 2, 8, 0, 3, Bmps.THREE, Desks.bytes(0, 0, 0, 0, 3, 0, 0, 0)));
        PictureDesk desk = new PictureDesk();
        Desks.load(desk, Bmps.file(1, 1, 8, 0, 0, new byte[1024], Desks.bytes(255, 0, 0, 0)));
        Check.answers("255 of 256", 2, () -> desk.read(0));
        Desks.load(desk, Bmps.file(1, 1, 8, 0, 3, Bmps.THREE, Desks.bytes(3, 0, 0, 0)));
        Check.refuses("3 of 3, behind a file of 256", Desks.BROKEN, () -> desk.read(0));
    }

    private static void alpha() {
        Check.sentence("A is 255.");
        for (int fourth : new int[] {0, 1, 128, 254, 255}) {
            byte[] four = Desks.bytes(1, 2, 3, fourth);
            Desks.reads("depth 32", Bmps.file(1, 1, 32, 0, 0, Bmps.NONE, four), 2, 1, POINT);
            Desks.reads("depth 24", Bmps.plain(1, 1, four), 2, 1, POINT);
            Desks.reads("a colour's byte", Bmps.file(1, 1, 8, 0, 1, four, new byte[4]), 2, 1, POINT);
            Desks.reads("a colour's byte in runs", Bmps.file(1, 1, 8, 1, 1, four, Desks.bytes(1, 0, 0, 1)), 2, 1, POINT);
        }
    }
}
