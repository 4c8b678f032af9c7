import java.util.Arrays;
import java.util.Random;

/** Promise 6, BMP: its depths, rows and runs. */
public final class BmpReadTest {
    private static final byte[] THREE = Desks.bytes(3, 2, 1, 0, 6, 5, 4, 9, 9, 8, 7, 255);
    private static final int[] COLOURS = {0x010203FF, 0x040506FF, 0x070809FF};

    public static void main(String[] args) {
        everyDepth();
        head();
        size();
        colours();
        start();
        rowEnds();
        runs();
        brokenRuns();
        Check.finish();
    }

    /** The 54 bytes, for a file of that length whose rows are at start. */
    private static byte[] head(int length, int start, int width, int height, int depth, int packing, int used) {
        return Desks.join("BM".getBytes(), Desks.little4(length), Desks.bytes(1, 2, 3, 4), Desks.little4(start),
                Desks.little4(40), Desks.little4(width), Desks.little4(height), Desks.little2(1), Desks.little2(depth),
                Desks.little4(packing), Desks.bytes(1, 2, 3, 4, 5, 6, 7, 8, 9, 10, 11, 12), Desks.little4(used),
                Desks.bytes(5, 6, 7, 8));
    }

    private static byte[] file(int width, int height, int depth, int packing, int used, byte[] colours, byte[] rows) {
        int start = 54 + colours.length;
        return Desks.join(head(start + rows.length, start, width, height, depth, packing, used), colours, rows);
    }

    private static void everyDepth() {
        for (int depth : new int[] {1, 4, 8, 24, 32}) {
            for (int width : new int[] {1, 2, 3, 4, 5, 7, 8, 9, 31, 32, 33}) {
                for (int height : new int[] {1, 2, 5, -1, -2, -5}) {
                    oneFile(depth, width, height);
                }
            }
        }
    }

    private static void oneFile(int depth, int width, int height) {
        Random random = new Random(depth * 10000L + width * 100L + height);
        int used = depth > 8 ? 0 : random.nextInt((1 << depth) + 1);
        int colours = depth > 8 ? 0 : used == 0 ? 1 << depth : used;
        byte[] table = new byte[4 * colours];
        random.nextBytes(table);
        int n = (width * depth + 31) / 32 * 4;
        int rows = Math.abs(height);
        byte[] data = new byte[n * rows];
        random.nextBytes(data);
        int[] due = new int[width * rows];
        for (int row = 0; row < rows; row++) {
            int y = height < 0 ? row : rows - 1 - row;
            for (int x = 0; x < width; x++) {
                if (depth > 8) {
                    due[y * width + x] = colour(data, row * n + x * depth / 8);
                    continue;
                }
                int index = random.nextInt(colours);
                int bit = x * depth;
                int shift = 8 - depth - bit % 8;
                int at = row * n + bit / 8;
                data[at] = (byte) (data[at] & ~((1 << depth) - 1 << shift) | index << shift);
                due[y * width + x] = colour(table, 4 * index);
            }
        }
        String what = "depth " + depth + ", " + width + " x " + height + ", used " + used;
        Desks.reads(what, file(width, height, depth, 0, used, table, data), 2, width, due);
    }

    private static int colour(byte[] bytes, int at) {
        return (bytes[at + 2] & 255) << 24 | (bytes[at + 1] & 255) << 16 | (bytes[at] & 255) << 8 | 255;
    }

    private static void head() {
        byte[] good = file(1, 1, 24, 0, 0, new byte[0], Desks.bytes(1, 2, 3, 4));
        Desks.reads("the least file", good, 2, 1, 0x030201FF);
        Desks.refuses("BN", Desks.BROKEN, Desks.with(good, 1, 'N'));
        Desks.refuses("a smaller length", Desks.BROKEN, Desks.with(good, 2, 57));
        Desks.refuses("a larger length", Desks.BROKEN, Desks.with(good, 2, 59));
        Desks.refuses("a far larger length", Desks.BROKEN, Desks.with(good, 5, 1));
        Desks.refuses("12 in place of 40", Desks.BROKEN, Desks.with(good, 14, 12));
        Desks.refuses("124 in place of 40", Desks.BROKEN, Desks.with(good, 14, 124));
        Desks.refuses("0 in place of 1", Desks.BROKEN, Desks.with(good, 26, 0));
        Desks.refuses("257 in place of 1", Desks.BROKEN, Desks.with(good, 27, 1));
        for (int depth : new int[] {0, 2, 3, 16, 25, 64}) {
            Desks.refuses("depth " + depth, Desks.BROKEN, Desks.with(good, 28, depth));
        }
        Desks.refuses("depth 24 and 256", Desks.BROKEN, Desks.with(good, 29, 1));
        for (int packing : new int[] {1, 2, 3, 255}) {
            Desks.refuses("packing " + packing, Desks.BROKEN, Desks.with(good, 30, packing));
        }
        Desks.refuses("packing 2^24", Desks.BROKEN, Desks.with(good, 33, 1));
        Desks.refuses("used 1 for depth 24", Desks.BROKEN, Desks.with(good, 46, 1));
        Desks.refuses("used 1 for depth 32", Desks.BROKEN, file(1, 1, 32, 0, 1, new byte[0], new byte[4]));
        for (int n = 1; n < good.length; n++) {
            Desks.refuses("the first " + n + " bytes", Desks.BROKEN, Arrays.copyOf(good, n));
            if (n >= 6) {
                byte[] cut = Desks.with(Arrays.copyOf(good, n), 2, n);
                Desks.refuses("the first " + n + " bytes, so told", Desks.BROKEN, cut);
            }
        }
        Desks.refuses("a byte more", Desks.BROKEN, Desks.join(good, Desks.bytes(0)));
        Desks.refuses("a byte more, so told", Desks.BROKEN, Desks.with(Desks.join(good, Desks.bytes(0)), 2, 59));
        byte[] runs = Desks.bytes(1, 0, 0, 1);
        Desks.reads("packing 1", file(1, 1, 8, 1, 3, THREE, runs), 2, 1, COLOURS[0]);
        Desks.refuses("packing 1 from the top", Desks.BROKEN, file(1, -1, 8, 1, 3, THREE, runs));
        Desks.refuses("packing 1 for depth 4", Desks.BROKEN, file(1, 1, 4, 1, 3, THREE, runs));
        Desks.refuses("packing 1 for depth 1", Desks.BROKEN, file(1, 1, 1, 1, 1, new byte[4], runs));
        Desks.refuses("packing 2", Desks.BROKEN, file(1, 1, 4, 2, 3, THREE, runs));
    }

    private static void size() {
        byte[] none = new byte[0];
        byte[] dot = new byte[4];
        Desks.refuses("width 0", Desks.BROKEN, file(0, 1, 24, 0, 0, none, dot));
        Desks.refuses("height 0", Desks.BROKEN, file(1, 0, 24, 0, 0, none, dot));
        Desks.refuses("width -1", Desks.BROKEN, file(-1, 1, 24, 0, 0, none, dot));
        Desks.refuses("width -2^31", Desks.BROKEN, file(Integer.MIN_VALUE, 20000, 24, 0, 0, none, dot));
        Desks.refuses("16385 x 1", Desks.TOO_LARGE, file(16385, 1, 24, 0, 0, none, dot));
        Desks.refuses("128 x 129", Desks.TOO_LARGE, file(128, 129, 24, 0, 0, none, dot));
        Desks.refuses("128 x -129", Desks.TOO_LARGE, file(128, -129, 24, 0, 0, none, dot));
        Desks.refuses("1 x -2^31", Desks.TOO_LARGE, file(1, Integer.MIN_VALUE, 24, 0, 0, none, dot));
        int most = Integer.MAX_VALUE;
        Desks.refuses("the largest numbers", Desks.TOO_LARGE, file(most, most, 24, 0, 0, none, dot));
        Desks.refuses("65536 x 65536", Desks.TOO_LARGE, file(65536, 65536, 24, 0, 0, none, dot));
        Desks.refuses("too large, 54 bytes", Desks.TOO_LARGE, head(54, 54, 200, 200, 8, 0, 0));
        Desks.refuses("too large, 53 bytes", Desks.BROKEN, Arrays.copyOf(head(53, 54, 200, 200, 8, 0, 0), 53));
        Desks.refuses("too large, used beyond", Desks.BROKEN, head(54, 54, 200, 200, 8, 0, 257));
        Desks.refuses("too large, another length", Desks.BROKEN, head(55, 54, 200, 200, 8, 0, 0));
        byte[] high = file(1, 16384, 8, 1, 3, THREE, Desks.bytes(0, 1));
        int[] due = new int[16384];
        Arrays.fill(due, COLOURS[0]);
        Desks.reads("1 x 16384", high, 2, 1, due);
        Desks.reads("16384 x 1", file(16384, 1, 8, 1, 3, THREE, Desks.bytes(0, 1)), 2, 16384, due);
    }

    private static void colours() {
        byte[] row = Desks.bytes(0, 0, 0, 0);
        Desks.reads("2^depth used", file(1, 1, 1, 0, 2, new byte[8], row), 2, 1, 255);
        Desks.reads("0 used", file(1, 1, 1, 0, 0, new byte[8], row), 2, 1, 255);
        Desks.refuses("3 used for depth 1", Desks.BROKEN, file(1, 1, 1, 0, 3, new byte[12], row));
        Desks.refuses("17 used for depth 4", Desks.BROKEN, file(1, 1, 4, 0, 17, new byte[68], row));
        Desks.refuses("257 used for depth 8", Desks.BROKEN, file(1, 1, 8, 0, 257, new byte[1028], row));
        Desks.refuses("-1 used", Desks.BROKEN, file(1, 1, 8, 0, -1, new byte[0], row));
        Desks.reads("the last index", file(1, 1, 8, 0, 3, THREE, Desks.bytes(2, 9, 9, 9)), 2, 1, COLOURS[2]);
        Desks.refuses("an index beyond, depth 8", Desks.BROKEN, file(1, 1, 8, 0, 3, THREE, Desks.bytes(3, 0, 0, 0)));
        Desks.refuses("an index beyond, depth 4", Desks.BROKEN, file(1, 1, 4, 0, 3, THREE, Desks.bytes(48, 0, 0, 0)));
        Desks.reads("bits behind a row", file(1, 1, 4, 0, 3, THREE, Desks.bytes(47, 255, 255, 255)), 2, 1, COLOURS[2]);
        Desks.refuses("an index beyond, depth 1", Desks.BROKEN, file(1, 1, 1, 0, 1, new byte[4], Desks.bytes(128, 0, 0, 0)));
        Desks.refuses("colours cut off", Desks.BROKEN, Arrays.copyOf(head(60, 60, 1, 1, 8, 0, 3), 60));
    }

    private static void start() {
        byte[] gap = Desks.bytes(7, 7, 7);
        byte[] row = Desks.bytes(1, 2, 3, 4);
        Desks.reads("a gap", Desks.join(head(61, 57, 1, 1, 24, 0, 0), gap, row), 2, 1, 0x030201FF);
        Desks.refuses("a gap less", Desks.BROKEN, Desks.join(head(61, 56, 1, 1, 24, 0, 0), gap, row));
        Desks.refuses("a gap more", Desks.BROKEN, Desks.join(head(61, 58, 1, 1, 24, 0, 0), gap, row));
        Desks.refuses("a start before 54", Desks.BROKEN, Desks.join(head(57, 53, 1, 1, 24, 0, 0), gap));
        Desks.refuses("a start of 0", Desks.BROKEN, Desks.join(head(58, 0, 1, 1, 24, 0, 0), row));
        Desks.refuses("a start in the colours", Desks.BROKEN, Desks.join(head(66, 62, 1, 1, 8, 0, 3), THREE));
        Desks.refuses("a start at the end", Desks.BROKEN, Desks.join(head(58, 58, 1, 1, 24, 0, 0), row));
        Desks.refuses("a start beyond the end", Desks.BROKEN, Desks.join(head(58, 59, 1, 1, 24, 0, 0), row));
        Desks.refuses("a start of 2^31", Desks.BROKEN, Desks.join(head(58, Integer.MIN_VALUE, 1, 1, 24, 0, 0), row));
        Desks.refuses("the largest start", Desks.BROKEN, Desks.join(head(58, Integer.MAX_VALUE, 1, 1, 24, 0, 0), row));
    }

    private static void rowEnds() {
        byte[] none = new byte[0];
        Desks.refuses("a row of 3 bytes", Desks.BROKEN, file(1, 1, 24, 0, 0, none, new byte[3]));
        Desks.refuses("a row too few", Desks.BROKEN, file(1, 2, 24, 0, 0, none, new byte[4]));
        Desks.refuses("a row too many", Desks.BROKEN, file(1, 2, 24, 0, 0, none, new byte[12]));
        Desks.refuses("a byte too many", Desks.BROKEN, file(1, 2, 24, 0, 0, none, new byte[9]));
    }

    private static byte[] runFile(int width, int height, int... runs) {
        return file(width, height, 8, 1, 3, THREE, Desks.bytes(runs));
    }

    private static void gives(String what, int width, int[] runs, int... indices) {
        int[] due = new int[indices.length];
        for (int k = 0; k < due.length; k++) {
            due[k] = COLOURS[indices[k]];
        }
        Desks.reads(what, runFile(width, indices.length / width, runs), 2, width, due);
    }

    private static void runs() {
        gives("runs", 3, new int[] {2, 1, 1, 2, 0, 0, 3, 2, 0, 1}, 2, 2, 2, 1, 1, 2);
        gives("nothing but the end", 3, new int[] {0, 1}, 0, 0, 0, 0, 0, 0);
        gives("left out", 3, new int[] {1, 1, 0, 0, 2, 2, 0, 1}, 2, 2, 0, 1, 0, 0);
        gives("singles", 4, new int[] {0, 4, 0, 1, 2, 1, 0, 1}, 0, 1, 2, 1);
        gives("singles and a byte", 4, new int[] {0, 3, 2, 1, 2, 255, 1, 1, 0, 1}, 2, 1, 2, 1);
        gives("a move", 4, new int[] {1, 1, 0, 2, 1, 1, 2, 2, 0, 1}, 0, 0, 2, 2, 1, 0, 0, 0);
        gives("a move of none", 2, new int[] {0, 2, 0, 0, 2, 1, 0, 1}, 1, 1);
        gives("a move up keeps the place", 3, new int[] {2, 1, 0, 2, 0, 1, 1, 2, 0, 1}, 0, 0, 2, 1, 1, 0);
        gives("a move to just behind a row", 2, new int[] {0, 2, 2, 0, 0, 0, 2, 1, 0, 1}, 1, 1, 0, 0);
        gives("a move to the row behind the last", 2, new int[] {0, 2, 2, 2, 0, 1}, 0, 0, 0, 0);
        gives("moves in the row behind the last", 2, new int[] {0, 0, 0, 0, 0, 2, 2, 0, 0, 1}, 0, 0, 0, 0);
        gives("a row's end behind the last row", 2, new int[] {2, 1, 0, 0, 2, 2, 0, 0, 0, 1}, 2, 2, 1, 1);
        int[] wide = new int[300];
        Arrays.fill(wide, 1);
        gives("a run of 255", 300, new int[] {255, 1, 45, 1, 0, 1}, wide);
        int[] singles = new int[2 + 255 + 1 + 2];
        Arrays.fill(singles, 1);
        singles[0] = 0;
        singles[1] = 255;
        singles[singles.length - 2] = 0;
        int[] due = new int[255];
        Arrays.fill(due, 1);
        gives("singles of 255", 255, singles, due);
    }

    private static void broken(String what, int... runs) {
        Desks.refuses(what, Desks.BROKEN, runFile(4, 2, runs));
    }

    private static void brokenRuns() {
        broken("no end", 4, 1, 0, 0, 4, 1);
        broken("no runs");
        broken("half a pair", 4, 1, 0);
        broken("bytes behind the end", 0, 1, 0);
        broken("a pair behind the end", 0, 1, 0, 1);
        broken("a run beyond the row", 5, 1, 0, 1);
        broken("a run beyond the row in two", 3, 1, 2, 1, 0, 1);
        broken("singles beyond the row", 2, 1, 0, 3, 1, 1, 1, 0, 0, 1);
        broken("singles without their byte", 0, 3, 1, 1, 1, 0, 1);
        broken("singles cut off", 0, 4, 1, 1);
        broken("a run behind the last row", 0, 0, 0, 0, 1, 1, 0, 1);
        broken("singles behind the last row", 0, 0, 0, 0, 0, 3, 1, 1, 1, 0, 0, 1);
        broken("a row's end behind the last row but one", 0, 0, 0, 0, 0, 0, 0, 1);
        broken("a move beyond the row", 0, 2, 5, 0, 0, 1);
        broken("a move beyond the row in two", 1, 1, 0, 2, 4, 0, 0, 1);
        broken("a move beyond the last row", 0, 2, 0, 3, 0, 1);
        broken("a move cut off", 0, 2, 1);
        broken("a run beyond the colours", 1, 3, 0, 1);
        broken("singles beyond the colours", 0, 4, 0, 1, 2, 3, 0, 1);
        broken("a run of none behind a full row", 4, 1, 1, 1, 0, 1);
    }
}
