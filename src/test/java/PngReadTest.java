import java.io.ByteArrayOutputStream;
import java.util.ArrayList;
import java.util.Arrays;
import java.util.List;
import java.util.Random;

/** Promise 6, PNG: every kind and depth in many sizes, with any filters, in one pass and in seven. */
public final class PngReadTest {
    /** Which pass each point of a square of eight is in. */
    private static final String[] PASSES = {
        "16462646", "77777777", "56565656", "77777777", "36463646", "77777777", "56565656", "77777777"
    };

    public static void main(String[] args) {
        everyKind();
        Check.finish();
    }

    private static int numbersOf(int kind) {
        return kind == 6 ? 4 : kind == 2 ? 3 : kind == 4 ? 2 : 1;
    }

    private static void everyKind() {
        int[][] kinds = {
            {0, 1}, {0, 2}, {0, 4}, {0, 8}, {0, 16}, {2, 8}, {2, 16}, {3, 1}, {3, 2}, {3, 4}, {3, 8}, {4, 8}, {4, 16},
            {6, 8}, {6, 16}
        };
        int[][] sizes = {{1, 1}, {2, 1}, {1, 2}, {3, 3}, {4, 5}, {5, 4}, {7, 9}, {8, 8}, {9, 17}, {13, 2}, {1, 9}, {5, 1}};
        for (int[] kind : kinds) {
            for (int[] size : sizes) {
                for (int interlace = 0; interlace <= 1; interlace++) {
                    for (int trns = 0; trns <= 1; trns++) {
                        oneFile(kind[0], kind[1], size[0], size[1], interlace, trns == 1);
                    }
                }
            }
        }
    }

    private static void oneFile(int kind, int depth, int width, int height, int interlace, boolean hasTrns) {
        Random random = new Random(kind * 1000003L + depth * 10007L + width * 101L + height * 11L + interlace);
        int numbers = numbersOf(kind);
        int colours = kind == 3 ? 1 + random.nextInt(1 << depth) : 0;
        int below = kind == 3 ? colours : 1 << depth;
        int[][] points = new int[width * height][numbers];
        for (int[] point : points) {
            for (int k = 0; k < numbers; k++) {
                point[k] = random.nextInt(below);
            }
        }
        byte[] plte = new byte[3 * colours];
        random.nextBytes(plte);
        List<byte[]> parts = new ArrayList<>();
        parts.add(Pngs.header(width, height, depth, kind, interlace));
        if (kind == 3) {
            parts.add(Pngs.part("PLTE", plte));
        }
        int[] key = points[random.nextInt(points.length)];
        byte[] alphas = new byte[kind == 3 ? 1 + random.nextInt(colours) : 0];
        random.nextBytes(alphas);
        boolean isKeyed = hasTrns && (kind == 0 || kind == 2);
        boolean hasAlphas = hasTrns && kind == 3;
        if (isKeyed) {
            byte[] trns = new byte[2 * numbers];
            for (int k = 0; k < numbers; k++) {
                trns[2 * k] = (byte) (key[k] >> 8);
                trns[2 * k + 1] = (byte) key[k];
            }
            parts.add(Pngs.part("tRNS", trns));
        } else if (hasAlphas) {
            parts.add(Pngs.part("tRNS", alphas));
        }
        byte[] rows = interlace == 1 ? passes(points, width, height, depth, random) : rows(points, width, depth, random);
        addData(parts, Pngs.zlib(rows, random.nextInt(10), random.nextInt(3)), random);
        int[] due = new int[points.length];
        for (int i = 0; i < due.length; i++) {
            if (kind == 3) {
                int index = points[i][0];
                int alpha = hasAlphas && index < alphas.length ? alphas[index] & 255 : 255;
                due[i] = (plte[3 * index] & 255) << 24 | (plte[3 * index + 1] & 255) << 16
                        | (plte[3 * index + 2] & 255) << 8 | alpha;
            } else {
                due[i] = colour(points[i], depth, isKeyed && Arrays.equals(points[i], key));
            }
        }
        String what = "kind " + kind + ", depth " + depth + ", " + width + " x " + height + ", interlace " + interlace;
        Desks.reads(what, Pngs.file(parts.toArray(new byte[0][])), 0, width, due);
    }

    private static void addData(List<byte[]> parts, byte[] zlib, Random random) {
        int at = 0;
        while (at < zlib.length) {
            int n = Math.min(zlib.length - at, random.nextInt(60));
            parts.add(Pngs.data(Arrays.copyOfRange(zlib, at, at + n)));
            at += n;
        }
    }

    private static int colour(int[] point, int depth, boolean isKey) {
        int[] eight = new int[point.length];
        for (int k = 0; k < point.length; k++) {
            eight[k] = depth == 16 ? point[k] / 256 : point[k] * 255 / ((1 << depth) - 1);
        }
        boolean isGrey = point.length <= 2;
        int alpha = isKey ? 0 : point.length % 2 == 0 ? eight[point.length - 1] : 255;
        return eight[0] << 24 | eight[isGrey ? 0 : 1] << 16 | eight[isGrey ? 0 : 2] << 8 | alpha;
    }

    private static byte[] passes(int[][] points, int width, int height, int depth, Random random) {
        ByteArrayOutputStream made = new ByteArrayOutputStream();
        for (char pass = '1'; pass <= '7'; pass++) {
            List<int[]> taken = new ArrayList<>();
            int passWidth = 0;
            for (int y = 0; y < height; y++) {
                int before = taken.size();
                for (int x = 0; x < width; x++) {
                    if (PASSES[y % 8].charAt(x % 8) == pass) {
                        taken.add(points[y * width + x]);
                    }
                }
                passWidth = Math.max(passWidth, taken.size() - before);
            }
            if (passWidth > 0) {
                byte[] rows = rows(taken.toArray(new int[0][]), passWidth, depth, random);
                made.write(rows, 0, rows.length);
            }
        }
        return made.toByteArray();
    }

    private static byte[] rows(int[][] points, int width, int depth, Random random) {
        int height = points.length / width;
        int bits = points[0].length * depth;
        int n = (width * bits + 7) / 8;
        int[][] raw = new int[height][n];
        for (int i = 0; i < points.length; i++) {
            for (int k = 0; k < points[i].length; k++) {
                for (int bit = 0; bit < depth; bit++) {
                    int at = i % width * bits + k * depth + bit;
                    raw[i / width][at / 8] |= (points[i][k] >> depth - 1 - bit & 1) << 7 - at % 8;
                }
            }
        }
        for (int y = 0; y < height; y++) {
            for (int at = width * bits; at < 8 * n; at++) {
                raw[y][at / 8] |= random.nextInt(2) << 7 - at % 8;
            }
        }
        ByteArrayOutputStream made = new ByteArrayOutputStream();
        for (int y = 0; y < height; y++) {
            filter(raw, y, Math.max(1, bits / 8), random.nextInt(5), made);
        }
        return made.toByteArray();
    }

    private static void filter(int[][] raw, int y, int step, int type, ByteArrayOutputStream made) {
        made.write(type);
        for (int k = 0; k < raw[y].length; k++) {
            int a = k >= step ? raw[y][k - step] : 0;
            int b = y > 0 ? raw[y - 1][k] : 0;
            int c = k >= step && y > 0 ? raw[y - 1][k - step] : 0;
            int[] told = {0, a, b, (a + b) >> 1, paeth(a, b, c)};
            made.write(raw[y][k] - told[type]);
        }
    }

    private static int paeth(int a, int b, int c) {
        int p = a + b - c;
        int best = a;
        if (Math.abs(p - b) < Math.abs(p - best)) {
            best = b;
        }
        if (Math.abs(p - c) < Math.abs(p - best)) {
            best = c;
        }
        return best;
    }
}
