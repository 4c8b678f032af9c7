import java.io.ByteArrayOutputStream;
import java.util.ArrayList;
import java.util.List;
import java.util.Random;
import java.util.zip.Deflater;

/** Promise 6, PNG: its parts, kinds, depths, filters and passes. */
public final class PngReadTest {
    /** Which pass each point of a square of eight is in. */
    private static final String[] PASSES = {
        "16462646", "77777777", "56565656", "77777777", "36463646", "77777777", "56565656", "77777777"
    };

    public static void main(String[] args) {
        everyKind();
        largest();
        header();
        parts();
        palette();
        transparency();
        data();
        rows();
        Check.finish();
    }

    private static int numbersOf(int kind) {
        return kind == 6 ? 4 : kind == 2 ? 3 : kind == 4 ? 2 : 1;
    }

    private static void everyKind() {
        int[][] kinds = {
            {0, 1}, {0, 2}, {0, 4}, {0, 8}, {0, 16}, {2, 8}, {2, 16}, {3, 1}, {3, 2}, {3, 4}, {3, 8}, {4, 8}, {4, 16},
            {6, 8}, {6, 16}
        };
        int[][] sizes = {{1, 1}, {2, 1}, {1, 2}, {3, 3}, {4, 5}, {5, 4}, {7, 9}, {8, 8}, {9, 17}, {13, 2}, {1, 9}, {5, 1}};
        for (int[] kind : kinds) {
            for (int[] size : sizes) {
                for (int interlace = 0; interlace <= 1; interlace++) {
                    for (int trns = 0; trns <= 1; trns++) {
                        oneFile(kind[0], kind[1], size[0], size[1], interlace, trns == 1);
                    }
                }
            }
        }
    }

    private static void oneFile(int kind, int depth, int width, int height, int interlace, boolean hasTrns) {
        Random random = new Random(kind * 1000003L + depth * 10007L + width * 101L + height * 11L + interlace);
        int numbers = numbersOf(kind);
        int colours = kind == 3 ? 1 + random.nextInt(1 << depth) : 0;
        int below = kind == 3 ? colours : 1 << depth;
        int[][] points = new int[width * height][numbers];
        for (int[] point : points) {
            for (int k = 0; k < numbers; k++) {
                point[k] = random.nextInt(below);
            }
        }
        byte[] plte = new byte[3 * colours];
        random.nextBytes(plte);
        List<byte[]> parts = new ArrayList<>();
        parts.add(Pngs.header(width, height, depth, kind, interlace));
        if (kind == 3) {
            parts.add(Pngs.part("PLTE", plte));
        }
        int[] key = points[random.nextInt(points.length)];
        byte[] alphas = new byte[kind == 3 ? 1 + random.nextInt(colours) : 0];
        random.nextBytes(alphas);
        boolean isKeyed = hasTrns && (kind == 0 || kind == 2);
        boolean hasAlphas = hasTrns && kind == 3;
        if (isKeyed) {
            byte[] trns = new byte[2 * numbers];
            for (int k = 0; k < numbers; k++) {
                trns[2 * k] = (byte) (key[k] >> 8);
                trns[2 * k + 1] = (byte) key[k];
            }
            parts.add(Pngs.part("tRNS", trns));
        } else if (hasAlphas) {
            parts.add(Pngs.part("tRNS", alphas));
        }
        byte[] rows = interlace == 1 ? passes(points, width, height, depth, random) : rows(points, width, depth, random);
        addData(parts, Pngs.zlib(rows, random.nextInt(10), random.nextInt(3)), random);
        int[] due = new int[points.length];
        for (int i = 0; i < due.length; i++) {
            if (kind == 3) {
                int index = points[i][0];
                int alpha = hasAlphas && index < alphas.length ? alphas[index] & 255 : 255;
                due[i] = (plte[3 * index] & 255) << 24 | (plte[3 * index + 1] & 255) << 16
                        | (plte[3 * index + 2] & 255) << 8 | alpha;
            } else {
                due[i] = colour(points[i], depth, isKeyed && java.util.Arrays.equals(points[i], key));
            }
        }
        String what = "kind " + kind + ", depth " + depth + ", " + width + " x " + height + ", interlace " + interlace;
        Desks.reads(what, Pngs.file(parts.toArray(new byte[0][])), 0, width, due);
    }

    private static void addData(List<byte[]> parts, byte[] zlib, Random random) {
        int at = 0;
        while (at < zlib.length) {
            int n = Math.min(zlib.length - at, random.nextInt(60));
            parts.add(Pngs.data(java.util.Arrays.copyOfRange(zlib, at, at + n)));
            at += n;
        }
    }

    private static int colour(int[] point, int depth, boolean isKey) {
        int[] eight = new int[point.length];
        for (int k = 0; k < point.length; k++) {
            eight[k] = depth == 16 ? point[k] / 256 : point[k] * 255 / ((1 << depth) - 1);
        }
        boolean isGrey = point.length <= 2;
        int alpha = isKey ? 0 : point.length % 2 == 0 ? eight[point.length - 1] : 255;
        return eight[0] << 24 | eight[isGrey ? 0 : 1] << 16 | eight[isGrey ? 0 : 2] << 8 | alpha;
    }

    private static byte[] passes(int[][] points, int width, int height, int depth, Random random) {
        ByteArrayOutputStream made = new ByteArrayOutputStream();
        for (char pass = '1'; pass <= '7'; pass++) {
            List<int[]> taken = new ArrayList<>();
            int passWidth = 0;
            for (int y = 0; y < height; y++) {
                int before = taken.size();
                for (int x = 0; x < width; x++) {
                    if (PASSES[y % 8].charAt(x % 8) == pass) {
                        taken.add(points[y * width + x]);
                    }
                }
                passWidth = Math.max(passWidth, taken.size() - before);
            }
            if (passWidth > 0) {
                byte[] rows = rows(taken.toArray(new int[0][]), passWidth, depth, random);
                made.write(rows, 0, rows.length);
            }
        }
        return made.toByteArray();
    }

    private static byte[] rows(int[][] points, int width, int depth, Random random) {
        int height = points.length / width;
        int bits = points[0].length * depth;
        int n = (width * bits + 7) / 8;
        int[][] raw = new int[height][n];
        for (int i = 0; i < points.length; i++) {
            for (int k = 0; k < points[i].length; k++) {
                for (int bit = 0; bit < depth; bit++) {
                    int at = i % width * bits + k * depth + bit;
                    raw[i / width][at / 8] |= (points[i][k] >> depth - 1 - bit & 1) << 7 - at % 8;
                }
            }
        }
        for (int y = 0; y < height; y++) {
            for (int at = width * bits; at < 8 * n; at++) {
                raw[y][at / 8] |= random.nextInt(2) << 7 - at % 8;
            }
        }
        ByteArrayOutputStream made = new ByteArrayOutputStream();
        for (int y = 0; y < height; y++) {
            filter(raw, y, Math.max(1, bits / 8), random.nextInt(5), made);
        }
        return made.toByteArray();
    }

    private static void filter(int[][] raw, int y, int step, int type, ByteArrayOutputStream made) {
        made.write(type);
        for (int k = 0; k < raw[y].length; k++) {
            int a = k >= step ? raw[y][k - step] : 0;
            int b = y > 0 ? raw[y - 1][k] : 0;
            int c = k >= step && y > 0 ? raw[y - 1][k - step] : 0;
            int[] told = {0, a, b, (a + b) >> 1, paeth(a, b, c)};
            made.write(raw[y][k] - told[type]);
        }
    }

    private static int paeth(int a, int b, int c) {
        int p = a + b - c;
        int best = a;
        if (Math.abs(p - b) < Math.abs(p - best)) {
            best = b;
        }
        if (Math.abs(p - c) < Math.abs(p - best)) {
            best = c;
        }
        return best;
    }

    private static void largest() {
        byte[] narrow = new byte[9 * 16384];
        byte[] file = Pngs.file(Pngs.header(1, 16384, 16, 6, 0), Pngs.data(Pngs.zlib(narrow, 9, 0)));
        Desks.reads("1 x 16384, 64 bits a point", file, 0, 1, new int[16384]);
        file = Pngs.file(Pngs.header(1, 16384, 16, 6, 1), Pngs.data(Pngs.zlib(narrow, 9, 0)));
        Desks.reads("1 x 16384, 64 bits a point, seven passes", file, 0, 1, new int[16384]);
        file = Pngs.file(Pngs.header(128, 128, 8, 6, 0), Pngs.data(Pngs.zlib(new byte[128 * 513], 9, 0)));
        Desks.reads("128 x 128", file, 0, 128, new int[16384]);
        byte[] data = Pngs.data(Pngs.zlib(0, 0));
        Desks.refuses("128 x 129", Desks.TOO_LARGE, Pngs.file(Pngs.header(128, 129, 8, 0, 0), data));
        Desks.refuses("16385 x 1 and no more", Desks.TOO_LARGE, Desks.join(Pngs.SIGNATURE, Pngs.header(16385, 1, 8, 0, 0)));
        Desks.refuses("65536 x 65536", Desks.TOO_LARGE, Pngs.file(Pngs.header(65536, 65536, 8, 0, 0), data));
        int most = Integer.MAX_VALUE;
        Desks.refuses("the largest numbers", Desks.TOO_LARGE, Pngs.file(Pngs.header(most, most, 8, 0, 0), data));
        Desks.refuses("too large, and rubbish", Desks.TOO_LARGE,
                Desks.join(Pngs.SIGNATURE, Pngs.header(300, 300, 8, 0, 0), Desks.bytes(1, 2, 3)));
        Desks.refuses("too large, of no kind", Desks.BROKEN, Pngs.file(Pngs.header(300, 300, 8, 1, 0), data));
        byte[] wrongCrc = Desks.join(Pngs.SIGNATURE, Pngs.header(300, 300, 8, 0, 0));
        wrongCrc[wrongCrc.length - 1]++;
        Desks.refuses("too large, with a wrong CRC", Desks.BROKEN, wrongCrc);
    }

    private static void header() {
        byte[] data = Pngs.data(Pngs.zlib(0, 0, 0, 0, 0, 0, 0, 0, 0));
        int[][] wrong = {
            {0, 1, 8, 0, 0}, {1, 0, 8, 0, 0}, {-1, 1, 8, 0, 0}, {1, Integer.MIN_VALUE, 8, 0, 0}, {1, 1, 8, 0, 2},
            {1, 1, 0, 0, 0}, {1, 1, 3, 0, 0}, {1, 1, 32, 0, 0}, {1, 1, 4, 2, 0}, {1, 1, 1, 2, 0}, {1, 1, 16, 3, 0},
            {1, 1, 4, 4, 0}, {1, 1, 2, 6, 0}, {1, 1, 8, 1, 0}, {1, 1, 8, 5, 0}, {1, 1, 8, 7, 0}, {1, 1, 8, 255, 0}
        };
        for (int[] w : wrong) {
            byte[] file = Pngs.file(Pngs.header(w[0], w[1], w[2], w[3], w[4]), Pngs.part("PLTE", new byte[3]), data);
            Desks.refuses("header " + java.util.Arrays.toString(w), Desks.BROKEN, file);
        }
        byte[] body = Desks.join(Desks.big4(1), Desks.big4(1));
        byte[] grey = Pngs.data(Pngs.zlib(0, 9));
        Desks.reads("a header", Pngs.file(Pngs.part("IHDR", Desks.join(body, Desks.bytes(8, 0, 0, 0, 0))), grey), 0, 1,
                0x090909FF);
        Desks.refuses("packing 1", Desks.BROKEN,
                Pngs.file(Pngs.part("IHDR", Desks.join(body, Desks.bytes(8, 0, 1, 0, 0))), grey));
        Desks.refuses("filters 1", Desks.BROKEN,
                Pngs.file(Pngs.part("IHDR", Desks.join(body, Desks.bytes(8, 0, 0, 1, 0))), grey));
        Desks.refuses("a short header", Desks.BROKEN,
                Pngs.file(Pngs.part("IHDR", Desks.join(body, Desks.bytes(8, 0, 0, 0))), grey));
        Desks.refuses("a long header", Desks.BROKEN,
                Pngs.file(Pngs.part("IHDR", Desks.join(body, Desks.bytes(8, 0, 0, 0, 0, 0))), grey));
    }

    private static void parts() {
        byte[] head = Pngs.header(1, 1, 8, 0, 0);
        byte[] zlib = Pngs.zlib(0, 200);
        byte[] data = Pngs.data(zlib);
        byte[] first = Pngs.data(Desks.bytes(zlib[0]));
        byte[] rest = Pngs.data(java.util.Arrays.copyOfRange(zlib, 1, zlib.length));
        byte[] none = Pngs.data(new byte[0]);
        byte[] text = Pngs.part("tEXt", Desks.bytes(1, 2, 3));
        byte[] good = Pngs.file(head, data);
        int point = 0xC8C8C8FF;
        Desks.reads("the least file", good, 0, 1, point);
        Desks.reads("several IDATs", Pngs.file(head, none, first, none, rest, none), 0, 1, point);
        Desks.reads("parts that count for nothing",
                Pngs.file(head, text, Pngs.part("aaaa"), Pngs.part("zZZZ", new byte[300]), data, text, text), 0, 1, point);
        Desks.refuses("a part between IDATs", Desks.BROKEN, Pngs.file(head, first, text, rest));
        Desks.refuses("an IDAT behind others, though whole", Desks.BROKEN, Pngs.file(head, data, text, none));
        Desks.refuses("a part before IHDR", Desks.BROKEN, Pngs.file(text, head, data));
        Desks.refuses("two IHDRs", Desks.BROKEN, Pngs.file(head, head, data));
        Desks.refuses("no IHDR", Desks.BROKEN, Pngs.file(data));
        Desks.refuses("no IDAT", Desks.BROKEN, Pngs.file(head));
        Desks.refuses("an empty IDAT alone", Desks.BROKEN, Pngs.file(head, none));
        Desks.refuses("a part with a large first letter", Desks.BROKEN, Pngs.file(head, Pngs.part("Aaaa"), data));
        Desks.refuses("IDAt", Desks.BROKEN, Pngs.file(head, Pngs.part("IDAt", zlib)));
        for (String letters : new String[] {"a1aa", "aa@a", "aaa[", "aa`a", "aaa{", "a\u00e1aa", "\u00e1aaa", "1aaa"}) {
            Desks.refuses("letters " + letters, Desks.BROKEN, Pngs.file(head, Pngs.part(letters), data));
        }
        Desks.refuses("IEND with a byte", Desks.BROKEN, Desks.join(Pngs.SIGNATURE, head, data, Pngs.part("IEND", (byte) 0)));
        Desks.refuses("no IEND", Desks.BROKEN, Desks.join(Pngs.SIGNATURE, head, data));
        Desks.refuses("a byte behind IEND", Desks.BROKEN, Desks.join(good, Desks.bytes(0)));
        Desks.refuses("a part behind IEND", Desks.BROKEN, Desks.join(good, text));
        for (int n = 1; n < good.length; n++) {
            Desks.refuses("the first " + n + " bytes", Desks.BROKEN, java.util.Arrays.copyOf(good, n));
        }
        for (int at = 0; at < good.length; at++) {
            Desks.refuses("another byte at " + at, Desks.BROKEN, Desks.with(good, at, good[at] ^ 1));
        }
        byte[] long1 = Desks.join(Pngs.SIGNATURE, head, Desks.big4(Integer.MIN_VALUE), text);
        Desks.refuses("a length of 2^31", Desks.BROKEN, long1);
        Desks.refuses("the largest length", Desks.BROKEN,
                Desks.join(Pngs.SIGNATURE, head, Desks.big4(Integer.MAX_VALUE), text));
    }

    private static void palette() {
        byte[] data = Pngs.data(Pngs.zlib(0, 0));
        byte[] head = Pngs.header(1, 1, 2, 3, 0);
        byte[] three = Pngs.part("PLTE", Desks.bytes(1, 2, 3));
        Desks.reads("one colour", Pngs.file(head, three, data), 0, 1, 0x010203FF);
        Desks.reads("2^depth colours", Pngs.file(head, Pngs.part("PLTE", new byte[12]), data), 0, 1, 255);
        Desks.refuses("more than 2^depth colours", Desks.BROKEN, Pngs.file(head, Pngs.part("PLTE", new byte[15]), data));
        Desks.refuses("no PLTE", Desks.BROKEN, Pngs.file(head, data));
        Desks.refuses("PLTE behind IDAT", Desks.BROKEN, Pngs.file(head, data, three));
        Desks.refuses("two PLTEs", Desks.BROKEN, Pngs.file(head, three, three, data));
        Desks.refuses("an empty PLTE", Desks.BROKEN, Pngs.file(head, Pngs.part("PLTE"), data));
        Desks.refuses("PLTE of 4 bytes", Desks.BROKEN, Pngs.file(head, Pngs.part("PLTE", new byte[4]), data));
        Desks.refuses("PLTE of 5 bytes", Desks.BROKEN, Pngs.file(head, Pngs.part("PLTE", new byte[5]), data));
        Desks.refuses("an index without a colour", Desks.BROKEN,
                Pngs.file(head, three, Pngs.data(Pngs.zlib(0, 64))));
        Desks.reads("an index in bits that are no point", Pngs.file(head, three, Pngs.data(Pngs.zlib(0, 63))), 0, 1,
                0x010203FF);
        byte[] rgb = Pngs.header(1, 1, 8, 2, 0);
        byte[] rgbData = Pngs.data(Pngs.zlib(0, 7, 8, 9));
        byte[] most = Pngs.part("PLTE", new byte[768]);
        Desks.reads("PLTE for RGB", Pngs.file(rgb, most, rgbData), 0, 1, 0x070809FF);
        Desks.refuses("PLTE of 771 bytes", Desks.BROKEN, Pngs.file(rgb, Pngs.part("PLTE", new byte[771]), rgbData));
        Desks.refuses("two PLTEs for RGB", Desks.BROKEN, Pngs.file(rgb, three, three, rgbData));
        Desks.reads("PLTE for RGBA",
                Pngs.file(Pngs.header(1, 1, 8, 6, 0), most, Pngs.data(Pngs.zlib(0, 7, 8, 9, 5))), 0, 1, 0x07080905);
        Desks.refuses("PLTE for grey", Desks.BROKEN, Pngs.file(Pngs.header(1, 1, 8, 0, 0), three, data));
        Desks.refuses("PLTE for grey and alpha", Desks.BROKEN,
                Pngs.file(Pngs.header(1, 1, 8, 4, 0), three, Pngs.data(Pngs.zlib(0, 0, 0))));
    }

    private static void transparency() {
        byte[] three = Pngs.part("PLTE", Desks.bytes(1, 2, 3));
        byte[] trns = Pngs.part("tRNS", (byte) 9);
        byte[] head = Pngs.header(1, 1, 8, 3, 0);
        byte[] data = Pngs.data(Pngs.zlib(0, 0));
        Desks.reads("tRNS for a palette", Pngs.file(head, three, trns, data), 0, 1, 0x01020309);
        Desks.refuses("tRNS before PLTE", Desks.BROKEN, Pngs.file(head, trns, three, data));
        Desks.refuses("tRNS behind IDAT", Desks.BROKEN, Pngs.file(head, three, data, trns));
        Desks.refuses("two tRNS", Desks.BROKEN, Pngs.file(head, three, trns, trns, data));
        Desks.refuses("tRNS longer than PLTE", Desks.BROKEN,
                Pngs.file(head, three, Pngs.part("tRNS", new byte[2]), data));
        Desks.refuses("an empty tRNS", Desks.BROKEN, Pngs.file(head, three, Pngs.part("tRNS"), data));
        byte[] grey4 = Pngs.header(2, 1, 4, 0, 0);
        byte[] data4 = Pngs.data(Pngs.zlib(0, 0x5F));
        Desks.reads("tRNS for grey", Pngs.file(grey4, Pngs.part("tRNS", Desks.bytes(0, 15)), data4), 0, 2,
                0x555555FF, 0xFFFFFF00);
        Desks.refuses("tRNS of 2^depth", Desks.BROKEN, Pngs.file(grey4, Pngs.part("tRNS", Desks.bytes(0, 16)), data4));
        Desks.refuses("tRNS of 256", Desks.BROKEN, Pngs.file(grey4, Pngs.part("tRNS", Desks.bytes(1, 5)), data4));
        Desks.refuses("tRNS of 1 byte for grey", Desks.BROKEN, Pngs.file(grey4, trns, data4));
        Desks.refuses("tRNS of 6 bytes for grey", Desks.BROKEN,
                Pngs.file(grey4, Pngs.part("tRNS", new byte[6]), data4));
        Desks.refuses("two tRNS for grey", Desks.BROKEN,
                Pngs.file(grey4, Pngs.part("tRNS", new byte[2]), Pngs.part("tRNS", new byte[2]), data4));
        Desks.reads("tRNS asks all 16 bits",
                Pngs.file(Pngs.header(2, 1, 16, 0, 0), Pngs.part("tRNS", Desks.bytes(5, 6)),
                        Pngs.data(Pngs.zlib(0, 5, 6, 5, 7))), 0, 2, 0x05050500, 0x050505FF);
        byte[] rgb = Pngs.header(2, 1, 8, 2, 0);
        byte[] rgbData = Pngs.data(Pngs.zlib(0, 7, 8, 9, 7, 8, 8));
        byte[] rgbTrns = Pngs.part("tRNS", Desks.bytes(0, 7, 0, 8, 0, 9));
        Desks.reads("tRNS for RGB", Pngs.file(rgb, rgbTrns, rgbData), 0, 2, 0x07080900, 0x070808FF);
        Desks.reads("tRNS behind PLTE for RGB", Pngs.file(rgb, three, rgbTrns, rgbData), 0, 2, 0x07080900, 0x070808FF);
        Desks.refuses("tRNS before PLTE for RGB", Desks.BROKEN, Pngs.file(rgb, rgbTrns, three, rgbData));
        Desks.refuses("tRNS of 256 for RGB", Desks.BROKEN,
                Pngs.file(rgb, Pngs.part("tRNS", Desks.bytes(0, 7, 0, 8, 1, 9)), rgbData));
        Desks.refuses("tRNS of 2 bytes for RGB", Desks.BROKEN, Pngs.file(rgb, Pngs.part("tRNS", new byte[2]), rgbData));
        Desks.refuses("tRNS for grey and alpha", Desks.BROKEN,
                Pngs.file(Pngs.header(1, 1, 8, 4, 0), Pngs.part("tRNS", new byte[2]), Pngs.data(Pngs.zlib(0, 0, 0))));
        Desks.refuses("tRNS for RGBA", Desks.BROKEN,
                Pngs.file(Pngs.header(1, 1, 8, 6, 0), rgbTrns, Pngs.data(Pngs.zlib(0, 0, 0, 0, 0))));
    }

    /** What the ZLIB gives is just the rows. */
    private static void data() {
        byte[] head = Pngs.header(2, 2, 8, 0, 0);
        Desks.reads("just the rows", Pngs.file(head, Pngs.data(Pngs.zlib(0, 1, 2, 0, 3, 4))), 0, 2,
                0x010101FF, 0x020202FF, 0x030303FF, 0x040404FF);
        Desks.refuses("a byte less", Desks.BROKEN, Pngs.file(head, Pngs.data(Pngs.zlib(0, 1, 2, 0, 3))));
        Desks.refuses("a byte more", Desks.BROKEN, Pngs.file(head, Pngs.data(Pngs.zlib(0, 1, 2, 0, 3, 4, 0))));
        byte[] stored = Pngs.zlib(Desks.bytes(0, 1, 2, 0, 3, 4, 0), 0, Deflater.DEFAULT_STRATEGY);
        Desks.refuses("a stored byte more", Desks.BROKEN, Pngs.file(head, Pngs.data(stored)));
        Desks.refuses("many bytes more", Desks.BROKEN, Pngs.file(head, Pngs.data(Pngs.zlib(new byte[200000], 9, 0))));
    }

    private static void rows() {
        byte[] head = Pngs.header(1, 1, 8, 0, 0);
        for (int type : new int[] {5, 6, 128, 255}) {
            Desks.refuses("filter " + type, Desks.BROKEN, Pngs.file(head, Pngs.data(Pngs.zlib(type, 0))));
        }
        Desks.refuses("filter 5 in the last pass", Desks.BROKEN,
                Pngs.file(Pngs.header(1, 2, 8, 0, 1), Pngs.data(Pngs.zlib(0, 1, 5, 2))));
        Desks.reads("a pass has no row above its first",
                Pngs.file(Pngs.header(1, 2, 8, 0, 1), Pngs.data(Pngs.zlib(2, 9, 2, 7))), 0, 1, 0x090909FF, 0x070707FF);
    }
}
