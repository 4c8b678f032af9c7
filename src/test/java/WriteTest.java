import java.io.ByteArrayOutputStream;
import java.util.ArrayList;
import java.util.Arrays;
import java.util.LinkedHashMap;
import java.util.List;
import java.util.Map;
import java.util.Random;

/** Promise 7: every byte of what is written, against plain writers that look at all there is. */
public final class WriteTest {
    private static final int PNG = 0;
    private static final int GIF = 1;
    private static final int BMP = 2;

    public static void main(String[] args) {
        byHand();
        smallImages();
        largeImages();
        colourLimits();
        lengthLimits();
        arguments();
        Check.finish();
    }

    private static PictureDesk desk(int width, int[] points) {
        PictureDesk desk = new PictureDesk();
        desk.make(0, width, points.length / width, 0);
        for (int i = 0; i < points.length; i++) {
            desk.set(0, i % width, i / width, points[i]);
        }
        return desk;
    }

    private static void isWritten(String what, PictureDesk desk, int format, int mode, byte[] due) {
        String name = what + ", format " + format + ", mode " + mode;
        Check.answers(name + ": write", due.length, () -> desk.write(0, format, mode));
        byte[] got = Desks.result(desk);
        int same = 0;
        while (same < got.length && same < due.length && got[same] == due[same]) {
            same++;
        }
        Check.due(name + ": bytes that are as due", same, due.length);
        Check.answers(name + ": again", due.length, desk::again);
        Check.answers(name + ": read", format, () -> desk.read(3));
    }

    private static void byHand() {
        PictureDesk red = desk(1, new int[] {0xFF000080});
        isWritten("a red point", red, GIF, 0, Desks.join("GIF89a".getBytes(),
                Desks.bytes(1, 0, 1, 0, 128, 0, 0, 255, 0, 0, 0, 0, 0, 44, 0, 0, 0, 0, 1, 0, 1, 0, 0, 2, 2, 0x44, 1, 0, 59)));
        isWritten("a red point", red, GIF, 1, Desks.join("GIF89a".getBytes(),
                Desks.bytes(1, 0, 1, 0, 128, 0, 0, 255, 0, 0, 0, 0, 0, 44, 0, 0, 0, 0, 1, 0, 1, 0, 64, 2, 2, 0x44, 1, 0, 59)));
        PictureDesk clear = desk(1, new int[] {0xFF00007F});
        isWritten("a transparent point", clear, GIF, 0, Desks.join("GIF89a".getBytes(),
                Desks.bytes(1, 0, 1, 0, 128, 0, 0, 0, 0, 0, 0, 0, 0, 33, 249, 4, 1, 0, 0, 0, 0,
                        44, 0, 0, 0, 0, 1, 0, 1, 0, 0, 2, 2, 0x44, 1, 0, 59)));
        isWritten("a red point", red, BMP, 0, Desks.join("BM".getBytes(),
                Desks.bytes(58, 0, 0, 0, 0, 0, 0, 0, 54, 0, 0, 0, 40, 0, 0, 0, 1, 0, 0, 0, 1, 0, 0, 0, 1, 0, 24, 0,
                        0, 0, 0, 0, 0, 0, 0, 0, 0, 0, 0, 0, 0, 0, 0, 0, 0, 0, 0, 0, 0, 0, 0, 0, 0, 0, 255, 0)));
        isWritten("a red point", red, BMP, 1, Desks.join("BM".getBytes(),
                Desks.bytes(62, 0, 0, 0, 0, 0, 0, 0, 58, 0, 0, 0, 40, 0, 0, 0, 1, 0, 0, 0, 1, 0, 0, 0, 1, 0, 8, 0,
                        1, 0, 0, 0, 0, 0, 0, 0, 0, 0, 0, 0, 0, 0, 0, 0, 1, 0, 0, 0, 0, 0, 0, 0, 0, 0, 255, 0, 1, 0, 0, 1)));
        // Row 0 255 0 0 128: literals of 8 9 8 8 8 bits, no copy of three.
        byte[] deflate = new Desks.Bits().number(1, 1).number(1, 2).code("00110000").code("111111111").code("00110000")
                .code("00110000").code("10110000").code("0000000").bytes();
        byte[] zlib = Pngs.zlibRound(deflate, Desks.bytes(0, 255, 0, 0, 128));
        isWritten("a red point", red, PNG, 0, Pngs.file(Pngs.header(1, 1, 8, 6, 0), Pngs.data(zlib)));
    }

    /** Few colours, so that there are copies, rows that are alike, and tables. */
    private static int[] points(Random random, int total, int colours, int wild) {
        int[] table = new int[colours];
        for (int k = 0; k < colours; k++) {
            table[k] = random.nextInt() | (random.nextInt(4) == 0 ? 0 : 128);
        }
        int[] points = new int[total];
        int from = 0;
        for (int i = 0; i < total; i++) {
            if (random.nextInt(wild) == 0) {
                from = random.nextInt(i + 1);
            }
            points[i] = random.nextInt(wild) == 0 ? table[random.nextInt(colours)] : points[from++ % (i + 1)];
        }
        return points;
    }

    private static void smallImages() {
        Random random = new Random(7);
        int[][] sizes = {{1, 1}, {1, 2}, {2, 1}, {3, 3}, {4, 2}, {5, 7}, {17, 9}, {1, 40}, {40, 1}, {16, 16}, {300, 2}, {33, 20}};
        for (int[] size : sizes) {
            for (int colours : new int[] {1, 2, 3, 4, 5, 16, 17, 100, 256}) {
                int[] points = points(random, size[0] * size[1], colours, 1 + random.nextInt(6));
                allWays(size[0] + " x " + size[1] + " of " + colours, size[0], points);
            }
        }
    }

    private static void allWays(String what, int width, int[] points) {
        PictureDesk desk = desk(width, points);
        for (int mode = 0; mode <= 5; mode++) {
            isWritten(what, desk, PNG, mode, png(width, points, mode));
            Check.due(what + ": PNG keeps all", desk.hash(3), desk.hash(0));
        }
        for (int mode = 0; mode <= 1; mode++) {
            isWritten(what, desk, BMP, mode, mode == 0 ? plainBmp(width, points) : runBmp(width, points));
            isWritten(what, desk, GIF, mode, gif(width, points, mode == 1));
        }
    }

    private static void largeImages() {
        Random random = new Random(8);
        int[] few = points(random, 16384, 3, 40);
        allWays("a large image of few colours", 128, few);
        int[] same = new int[16384];
        Arrays.fill(same, 0x112233FF);
        allWays("a large image of one colour", 64, same);
        int[] noise = new int[12000];
        for (int i = 0; i < noise.length; i++) {
            noise[i] = random.nextInt(256) << 8 | 255;
        }
        PictureDesk desk = desk(120, noise);
        isWritten("noise of 256 colours", desk, GIF, 0, gif(120, noise, false));
        isWritten("noise of 256 colours", desk, GIF, 1, gif(120, noise, true));
        isWritten("noise of 256 colours", desk, BMP, 1, runBmp(120, noise));
        isWritten("noise of 256 colours", desk, PNG, 5, png(120, noise, 5));
        fullTables();
        int[] far = new int[3000];
        for (int i = 0; i < far.length; i++) {
            far[i] = i < 1024 ? random.nextInt() : far[i - 1024];
        }
        isWritten("copies from 4096 back", desk(3000, far), PNG, 0, png(3000, far, 0));
        for (int i = 0; i < far.length; i++) {
            far[i] = i < 1025 ? random.nextInt() : far[i - 1025];
        }
        isWritten("no copies from 4100 back", desk(3000, far), PNG, 0, png(3000, far, 0));
        int[] gradient = new int[10000];
        for (int i = 0; i < gradient.length; i++) {
            gradient[i] = (i % 100) * 0x02030000 + (i / 100) * 0x00010200 + 255;
        }
        PictureDesk soft = desk(100, gradient);
        for (int mode = 0; mode <= 5; mode++) {
            isWritten("a gradient", soft, PNG, mode, png(100, gradient, mode));
        }
    }

    /**
     * No two neighbours come twice, so each code is one index: of 3839 of them the last but one makes row 4095,
     * and a beginning stands between the last one and the end.
     */
    private static void fullTables() {
        int[] steps = new int[3850];
        int index = 0;
        for (int i = 0; i < steps.length; i++) {
            steps[i] = index << 16 | 255;
            index = index + 2 * (i / 256) + 1 & 255;
        }
        for (int width = 3830; width <= 3850; width++) {
            int[] row = Arrays.copyOf(steps, width);
            isWritten("steps of " + width, desk(width, row), GIF, 0, gif(width, row, false));
        }
    }

    private static void colourLimits() {
        int[] points = new int[257];
        for (int i = 0; i < 257; i++) {
            points[i] = i << 8 | 255;
        }
        PictureDesk desk = desk(257, points);
        desk.make(1, 1, 1, 5);
        desk.write(1, 2, 0);
        Check.refuses("257 colours in GIF", Desks.BROKEN, () -> desk.write(0, GIF, 0));
        Check.refuses("257 colours in GIF, interlaced", Desks.BROKEN, () -> desk.write(0, GIF, 1));
        Check.refuses("257 colours in runs", Desks.BROKEN, () -> desk.write(0, BMP, 1));
        Check.due("the result stays", desk.count(1), 58);
        Check.answers("257 colours in BMP", 54 + 772, () -> desk.write(0, BMP, 0));
        points[256] = 7;
        isWritten("256 colours in runs", desk(257, points), BMP, 1, runBmp(257, points));
        PictureDesk withClear = desk(257, points);
        Check.refuses("256 colours and TRANSPARENT", Desks.BROKEN, () -> withClear.write(0, GIF, 0));
        points[255] = 9;
        isWritten("255 colours and TRANSPARENT", desk(257, points), GIF, 0, gif(257, points, false));
        points[3] = 0x123456FF;
        points[4] = 0x12345680;
        points[5] = 0x1234567F;
        isWritten("alpha 128 is a colour's", desk(257, points), GIF, 1, gif(257, points, true));
    }

    private static void lengthLimits() {
        PictureDesk desk = new PictureDesk();
        desk.make(0, 1, 16370, 3);
        Check.answers("rows that just fit", 65534, () -> desk.write(0, BMP, 0));
        desk.make(0, 1, 16371, 3);
        Check.refuses("a row more", Desks.TOO_LARGE, () -> desk.write(0, BMP, 0));
        Check.due("the result stays", desk.count(1), 65534);
        desk.make(0, 1, 16369, 3);
        Check.answers("runs that just fit", 65534, () -> desk.write(0, BMP, 1));
        desk.make(0, 1, 16370, 3);
        Check.refuses("a run more", Desks.TOO_LARGE, () -> desk.write(0, BMP, 1));
        desk.paint(0, 1, 0, -1);
        Check.refuses("too long, and too many colours", Desks.BROKEN, () -> desk.write(0, BMP, 1));
        desk.make(0, 128, 128, 0);
        desk.paint(0, 0x01234567, 0, -1);
        Check.refuses("noise in PNG", Desks.TOO_LARGE, () -> desk.write(0, PNG, 0));
        Check.due("the result stays", desk.count(1), 65534);
        Check.due("the first bytes stay", desk.word(0), 0x424DFEFF00000000L);
        desk.make(1, 16384, 1, 0);
        Check.answers("the slot can be written still", desk.write(1, GIF, 0), () -> desk.write(1, GIF, 0));
        exactLength();
    }

    /** PNGs of noise, a point longer each time, around 65536 bytes. */
    private static void exactLength() {
        Random random = new Random(11);
        int[] noise = new int[16384];
        for (int i = 0; i < noise.length; i++) {
            noise[i] = random.nextInt();
        }
        int width = 15000;
        while (png(width, Arrays.copyOf(noise, width), 0).length <= 65536) {
            width += 50;
        }
        for (int w = width - 50; w <= width; w++) {
            int[] points = Arrays.copyOf(noise, w);
            byte[] due = png(w, points, 0);
            PictureDesk desk = desk(w, points);
            if (due.length <= 65536) {
                Check.answers("PNG of " + due.length, due.length, () -> desk.write(0, PNG, 0));
            } else {
                Check.refuses("PNG of " + due.length, Desks.TOO_LARGE, () -> desk.write(0, PNG, 0));
            }
        }
    }

    private static void arguments() {
        PictureDesk desk = new PictureDesk();
        desk.make(0, 1, 1, 0);
        int[][] wrong = {{0, 6}, {0, -1}, {1, 2}, {1, -1}, {2, 2}, {2, -1}, {3, 0}, {-1, 0}};
        for (int[] w : wrong) {
            Check.refuses("write " + w[0] + " " + w[1], IllegalArgumentException.class, () -> desk.write(0, w[0], w[1]));
        }
        Check.due("no result", desk.count(1), 0);
    }

    private static byte[] png(int width, int[] points, int mode) {
        int height = points.length / width;
        ByteArrayOutputStream rows = new ByteArrayOutputStream();
        for (int y = 0; y < height; y++) {
            byte[] best = filtered(width, points, y, mode == 5 ? 0 : mode);
            for (int type = 1; mode == 5 && type <= 4; type++) {
                byte[] other = filtered(width, points, y, type);
                if (sum(other) < sum(best)) {
                    best = other;
                }
            }
            rows.write(best, 0, best.length);
        }
        byte[] raw = rows.toByteArray();
        byte[] zlib = Pngs.zlibRound(deflate(raw), raw);
        return Pngs.file(Pngs.header(width, height, 8, 6, 0), Pngs.data(zlib));
    }

    private static int sum(byte[] row) {
        int sum = 0;
        for (int k = 1; k < row.length; k++) {
            sum += row[k] < 0 ? -row[k] : row[k];
        }
        return sum;
    }

    private static int number(int width, int[] points, int y, int k) {
        return y < 0 || k < 0 ? 0 : points[y * width + k / 4] >>> 24 - 8 * (k % 4) & 255;
    }

    private static byte[] filtered(int width, int[] points, int y, int type) {
        byte[] row = new byte[1 + 4 * width];
        row[0] = (byte) type;
        for (int k = 0; k < 4 * width; k++) {
            int a = number(width, points, y, k - 4);
            int b = number(width, points, y - 1, k);
            int c = number(width, points, y - 1, k - 4);
            int p = a + b - c;
            int near = a;
            near = Math.abs(p - b) < Math.abs(p - near) ? b : near;
            near = Math.abs(p - c) < Math.abs(p - near) ? c : near;
            int[] told = {0, a, b, (a + b) / 2, near};
            row[1 + k] = (byte) (number(width, points, y, k) - told[type]);
        }
        return row;
    }

    private static byte[] deflate(byte[] raw) {
        Desks.Bits bits = new Desks.Bits().number(1, 1).number(1, 2);
        int at = 0;
        while (at < raw.length) {
            int best = 0;
            int back = 0;
            for (int distance = 1; distance <= Math.min(at, 4096) && best < 258; distance++) {
                int length = 0;
                while (length < 258 && at + length < raw.length && raw[at + length] == raw[at + length - distance]) {
                    length++;
                }
                if (length > best) {
                    best = length;
                    back = distance;
                }
            }
            if (best >= 3) {
                putCopy(bits, best, back);
                at += best;
            } else {
                putMeaning(bits, raw[at] & 255);
                at++;
            }
        }
        putMeaning(bits, 256);
        return bits.bytes();
    }

    private static String word(int value, int n) {
        String bits = Integer.toBinaryString(value);
        return "0".repeat(n - bits.length()) + bits;
    }

    private static void putMeaning(Desks.Bits bits, int meaning) {
        if (meaning < 144) {
            bits.code(word(0x30 + meaning, 8));
        } else if (meaning < 256) {
            bits.code(word(0x190 + meaning - 144, 9));
        } else {
            bits.code(meaning < 280 ? word(meaning - 256, 7) : word(0xC0 + meaning - 280, 8));
        }
    }

    private static void putCopy(Desks.Bits bits, int length, int distance) {
        if (length == 258) {
            putMeaning(bits, 285);
        } else if (length <= 10) {
            putMeaning(bits, 254 + length);
        } else {
            int more = 31 - Integer.numberOfLeadingZeros(length - 3) - 2;
            putMeaning(bits, 257 + 4 * more + (length - 3 >> more));
            bits.number(length - 3 & (1 << more) - 1, more);
        }
        if (distance <= 4) {
            bits.code(word(distance - 1, 5));
        } else {
            int more = 31 - Integer.numberOfLeadingZeros(distance - 1) - 1;
            bits.code(word(2 * more + (distance - 1 >> more), 5));
            bits.number(distance - 1 & (1 << more) - 1, more);
        }
    }

    private static byte[] gif(int width, int[] points, boolean isInterlaced) {
        int height = points.length / width;
        Map<Integer, Integer> table = new LinkedHashMap<>();
        int[] indices = new int[points.length];
        for (int i = 0; i < points.length; i++) {
            int colour = (points[i] & 255) < 128 ? -1 : points[i] >>> 8;
            table.putIfAbsent(colour, table.size());
            indices[i] = table.get(colour);
        }
        int bits = 1;
        while (1 << bits < table.size()) {
            bits++;
        }
        byte[] colours = new byte[3 << bits];
        for (Map.Entry<Integer, Integer> entry : table.entrySet()) {
            int colour = Math.max(entry.getKey(), 0);
            colours[3 * entry.getValue()] = (byte) (colour >> 16);
            colours[3 * entry.getValue() + 1] = (byte) (colour >> 8);
            colours[3 * entry.getValue() + 2] = (byte) colour;
        }
        byte[] clear = !table.containsKey(-1) ? new byte[0] : Desks.bytes(33, 249, 4, 1, 0, 0, table.get(-1), 0);
        int m = Math.max(2, bits);
        byte[] lzw = lzw(m, isInterlaced ? interlaced(width, indices) : indices);
        ByteArrayOutputStream subs = new ByteArrayOutputStream();
        for (int at = 0; at < lzw.length; at += 255) {
            int n = Math.min(255, lzw.length - at);
            subs.write(n);
            subs.write(lzw, at, n);
        }
        return Desks.join("GIF89a".getBytes(), Desks.little2(width), Desks.little2(height),
                Desks.bytes(128 + 16 * (bits - 1) + bits - 1, 0, 0), colours, clear, Desks.bytes(44, 0, 0, 0, 0),
                Desks.little2(width), Desks.little2(height), Desks.bytes(isInterlaced ? 64 : 0, m), subs.toByteArray(),
                Desks.bytes(0, 59));
    }

    private static int[] interlaced(int width, int[] indices) {
        int[] made = new int[indices.length];
        int k = 0;
        for (int[] pass : new int[][] {{0, 8}, {4, 8}, {2, 4}, {1, 2}}) {
            for (int y = pass[0]; y < indices.length / width; y += pass[1]) {
                System.arraycopy(indices, y * width, made, k, width);
                k += width;
            }
        }
        return made;
    }

    private static byte[] lzw(int m, int[] indices) {
        Desks.Bits bits = new Desks.Bits().number(1 << m, m + 1);
        Map<List<Integer>, Integer> rows = new java.util.HashMap<>();
        int next = (1 << m) + 2;
        int sinceBeginning = 0;
        boolean isFull = false;
        int at = 0;
        while (at < indices.length) {
            List<Integer> row = new ArrayList<>();
            row.add(indices[at++]);
            int code = row.get(0);
            while (at < indices.length) {
                row.add(indices[at]);
                if (!rows.containsKey(row)) {
                    break;
                }
                code = rows.get(row);
                at++;
            }
            bits.number(code, readersBits(m, sinceBeginning));
            sinceBeginning++;
            if (isFull) {
                bits.number(1 << m, readersBits(m, sinceBeginning));
                rows.clear();
                next = (1 << m) + 2;
                sinceBeginning = 0;
                isFull = false;
            } else if (at < indices.length) {
                rows.put(row, next);
                isFull = next == 4095;
                next++;
            }
        }
        return bits.number((1 << m) + 1, readersBits(m, sinceBeginning)).bytes();
    }

    /** A reader that has had so many codes since a beginning has one row less than those. */
    private static int readersBits(int m, int codes) {
        int next = (1 << m) + 2 + Math.max(0, codes - 1);
        int bits = m + 1;
        while (bits < 12 && next >= 1 << bits) {
            bits++;
        }
        return bits;
    }

    private static byte[] plainBmp(int width, int[] points) {
        int height = points.length / width;
        ByteArrayOutputStream rows = new ByteArrayOutputStream();
        for (int y = height - 1; y >= 0; y--) {
            for (int x = 0; x < width; x++) {
                int point = points[y * width + x];
                rows.write(point >> 8);
                rows.write(point >> 16);
                rows.write(point >> 24);
            }
            while (rows.size() % 4 != 0) {
                rows.write(0);
            }
        }
        return Desks.join(bmpHead(54 + rows.size(), 54, width, height, 24, 0), new byte[20], rows.toByteArray());
    }

    private static byte[] bmpHead(int length, int start, int width, int height, int depth, int packing) {
        return Desks.join("BM".getBytes(), Desks.little4(length), Desks.little4(0), Desks.little4(start),
                Desks.little4(40), Desks.little4(width), Desks.little4(height), Desks.little2(1), Desks.little2(depth),
                Desks.little4(packing));
    }

    private static byte[] runBmp(int width, int[] points) {
        int height = points.length / width;
        Map<Integer, Integer> table = new LinkedHashMap<>();
        for (int point : points) {
            table.putIfAbsent(point >>> 8, table.size());
        }
        ByteArrayOutputStream made = new ByteArrayOutputStream();
        for (int colour : table.keySet()) {
            made.writeBytes(Desks.bytes(colour, colour >> 8, colour >> 16, 0));
        }
        for (int y = height - 1; y >= 0; y--) {
            int x = 0;
            while (x < width) {
                int colour = points[y * width + x] >>> 8;
                int n = 0;
                while (n < 255 && x + n < width && points[y * width + x + n] >>> 8 == colour) {
                    n++;
                }
                made.write(n);
                made.write(table.get(colour));
                x += n;
            }
            made.writeBytes(y == 0 ? Desks.bytes(0, 1) : Desks.bytes(0, 0));
        }
        return Desks.join(bmpHead(54 + made.size(), 54 + 4 * table.size(), width, height, 8, 1), new byte[12],
                Desks.little4(table.size()), new byte[4], made.toByteArray());
    }
}
