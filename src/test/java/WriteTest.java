import java.util.Arrays;
import java.util.Random;

/** Promise 7: every byte of what is written, against plain writers that look at all there is. */
public final class WriteTest {
    private static final int PNG = 0;
    private static final int GIF = 1;
    private static final int BMP = 2;

    public static void main(String[] args) {
        byHand();
        smallImages();
        largeImages();
        Check.finish();
    }

    private static void byHand() {
        PictureDesk red = Desks.holding(1, 0xFF000080);
        Desks.writes("a red point", red, GIF, 0, Desks.join("GIF89a".getBytes(),
                Desks.bytes(1, 0, 1, 0, 128, 0, 0, 255, 0, 0, 0, 0, 0, 44, 0, 0, 0, 0, 1, 0, 1, 0, 0, 2, 2, 0x44, 1, 0, 59)));
        Desks.writes("a red point", red, GIF, 1, Desks.join("GIF89a".getBytes(),
                Desks.bytes(1, 0, 1, 0, 128, 0, 0, 255, 0, 0, 0, 0, 0, 44, 0, 0, 0, 0, 1, 0, 1, 0, 64, 2, 2, 0x44, 1, 0, 59)));
        PictureDesk clear = Desks.holding(1, 0xFF00007F);
        Desks.writes("a transparent point", clear, GIF, 0, Desks.join("GIF89a".getBytes(),
                Desks.bytes(1, 0, 1, 0, 128, 0, 0, 0, 0, 0, 0, 0, 0, 33, 249, 4, 1, 0, 0, 0, 0,
                        44, 0, 0, 0, 0, 1, 0, 1, 0, 0, 2, 2, 0x44, 1, 0, 59)));
        Desks.writes("a red point", red, BMP, 0, Desks.join("BM".getBytes(),
                Desks.bytes(58, 0, 0, 0, 0, 0, 0, 0, 54, 0, 0, 0, 40, 0, 0, 0, 1, 0, 0, 0, 1, 0, 0, 0, 1, 0, 24, 0,
                        0, 0, 0, 0, 0, 0, 0, 0, 0, 0, 0, 0, 0, 0, 0, 0, 0, 0, 0, 0, 0, 0, 0, 0, 0, 0, 255, 0)));
        Desks.writes("a red point", red, BMP, 1, Desks.join("BM".getBytes(),
                Desks.bytes(62, 0, 0, 0, 0, 0, 0, 0, 58, 0, 0, 0, 40, 0, 0, 0, 1, 0, 0, 0, 1, 0, 0, 0, 1, 0, 8, 0,
                        1, 0, 0, 0, 0, 0, 0, 0, 0, 0, 0, 0, 0, 0, 0, 0, 1, 0, 0, 0, 0, 0, 0, 0, 0, 0, 255, 0, 1, 0, 0, 1)));
        // Row 0 255 0 0 128: literals of 8 9 8 8 8 bits, no copy of three.
        byte[] deflate = new Desks.Bits().number(1, 1).number(1, 2).code("00110000").code("111111111").code("00110000")
                .code("00110000").code("10110000").code("0000000").bytes();
        byte[] zlib = Pngs.zlibRound(deflate, Desks.bytes(0, 255, 0, 0, 128));
        Desks.writes("a red point", red, PNG, 0, Pngs.file(Pngs.header(1, 1, 8, 6, 0), Pngs.data(zlib)));
    }

    /** Few colours, so that there are copies, rows that are alike, and tables. */
    private static int[] points(Random random, int total, int colours, int wild) {
        int[] table = new int[colours];
        for (int k = 0; k < colours; k++) {
            table[k] = random.nextInt() | (random.nextInt(4) == 0 ? 0 : 128);
        }
        int[] points = new int[total];
        int from = 0;
        for (int i = 0; i < total; i++) {
            if (random.nextInt(wild) == 0) {
                from = random.nextInt(i + 1);
            }
            points[i] = random.nextInt(wild) == 0 ? table[random.nextInt(colours)] : points[from++ % (i + 1)];
        }
        return points;
    }

    private static void smallImages() {
        Random random = new Random(7);
        int[][] sizes = {{1, 1}, {1, 2}, {2, 1}, {3, 3}, {4, 2}, {5, 7}, {17, 9}, {1, 40}, {40, 1}, {16, 16}, {300, 2}, {33, 20}};
        for (int[] size : sizes) {
            for (int colours : new int[] {1, 2, 3, 4, 5, 16, 17, 100, 256}) {
                int[] points = points(random, size[0] * size[1], colours, 1 + random.nextInt(6));
                allWays(size[0] + " x " + size[1] + " of " + colours, size[0], points);
            }
        }
    }

    private static void allWays(String what, int width, int[] points) {
        PictureDesk desk = Desks.holding(width, points);
        for (int mode = 0; mode <= 5; mode++) {
            Desks.writes(what, desk, PNG, mode, PlainWriters.png(width, points, mode));
            Check.due(what + ": PNG keeps all", desk.hash(3), desk.hash(0));
        }
        for (int mode = 0; mode <= 1; mode++) {
            Desks.writes(what, desk, BMP, mode, mode == 0 ? PlainWriters.plainBmp(width, points) : PlainWriters.runBmp(width, points));
            Desks.writes(what, desk, GIF, mode, PlainWriters.gif(width, points, mode == 1));
        }
    }

    private static void largeImages() {
        Random random = new Random(8);
        int[] few = points(random, 16384, 3, 40);
        allWays("a large image of few colours", 128, few);
        int[] same = new int[16384];
        Arrays.fill(same, 0x112233FF);
        allWays("a large image of one colour", 64, same);
        int[] noise = new int[12000];
        for (int i = 0; i < noise.length; i++) {
            noise[i] = random.nextInt(256) << 8 | 255;
        }
        PictureDesk desk = Desks.holding(120, noise);
        Desks.writes("noise of 256 colours", desk, GIF, 0, PlainWriters.gif(120, noise, false));
        Desks.writes("noise of 256 colours", desk, GIF, 1, PlainWriters.gif(120, noise, true));
        Desks.writes("noise of 256 colours", desk, BMP, 1, PlainWriters.runBmp(120, noise));
        Desks.writes("noise of 256 colours", desk, PNG, 5, PlainWriters.png(120, noise, 5));
        int[] gradient = new int[10000];
        for (int i = 0; i < gradient.length; i++) {
            gradient[i] = (i % 100) * 0x02030000 + (i / 100) * 0x00010200 + 255;
        }
        PictureDesk soft = Desks.holding(100, gradient);
        for (int mode = 0; mode <= 5; mode++) {
            Desks.writes("a gradient", soft, PNG, mode, PlainWriters.png(100, gradient, mode));
        }
    }
}
