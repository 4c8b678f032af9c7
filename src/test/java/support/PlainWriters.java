import java.io.ByteArrayOutputStream;
import java.util.ArrayList;
import java.util.HashMap;
import java.util.LinkedHashMap;
import java.util.List;
import java.util.Map;

/** Files as they must be WRITTEN, by writers that look at all there is, however long that takes. */
final class PlainWriters {
    private PlainWriters() {}

    static byte[] png(int width, int[] points, int mode) {
        int height = points.length / width;
        ByteArrayOutputStream rows = new ByteArrayOutputStream();
        for (int y = 0; y < height; y++) {
            byte[] best = filtered(width, points, y, mode == 5 ? 0 : mode);
            for (int type = 1; mode == 5 && type <= 4; type++) {
                byte[] other = filtered(width, points, y, type);
                if (sum(other) < sum(best)) {
                    best = other;
                }
            }
            rows.write(best, 0, best.length);
        }
        byte[] raw = rows.toByteArray();
        byte[] zlib = Pngs.zlibRound(deflate(raw), raw);
        return Pngs.file(Pngs.header(width, height, 8, 6, 0), Pngs.data(zlib));
    }

    private static int sum(byte[] row) {
        int sum = 0;
        for (int k = 1; k < row.length; k++) {
            sum += row[k] < 0 ? -row[k] : row[k];
        }
        return sum;
    }

    private static int number(int width, int[] points, int y, int k) {
        return y < 0 || k < 0 ? 0 : points[y * width + k / 4] >>> 24 - 8 * (k % 4) & 255;
    }

    private static byte[] filtered(int width, int[] points, int y, int type) {
        byte[] row = new byte[1 + 4 * width];
        row[0] = (byte) type;
        for (int k = 0; k < 4 * width; k++) {
            int a = number(width, points, y, k - 4);
            int b = number(width, points, y - 1, k);
            int c = number(width, points, y - 1, k - 4);
            int p = a + b - c;
            int near = a;
            near = Math.abs(p - b) < Math.abs(p - near) ? b : near;
            near = Math.abs(p - c) < Math.abs(p - near) ? c : near;
            int[] told = {0, a, b, (a + b) / 2, near};
            row[1 + k] = (byte) (number(width, points, y, k) - told[type]);
        }
        return row;
    }

    private static byte[] deflate(byte[] raw) {
        Desks.Bits bits = new Desks.Bits().number(1, 1).number(1, 2);
        int at = 0;
        while (at < raw.length) {
            int best = 0;
            int back = 0;
            for (int distance = 1; distance <= Math.min(at, 4096) && best < 258; distance++) {
                int length = 0;
                while (length < 258 && at + length < raw.length && raw[at + length] == raw[at + length - distance]) {
                    length++;
                }
                if (length > best) {
                    best = length;
                    back = distance;
                }
            }
            if (best >= 3) {
                putCopy(bits, best, back);
                at += best;
            } else {
                bits.code(Deflates.fixedCode(raw[at] & 255));
                at++;
            }
        }
        bits.code(Deflates.fixedCode(256));
        return bits.bytes();
    }

    private static void putCopy(Desks.Bits bits, int length, int distance) {
        if (length == 258) {
            bits.code(Deflates.fixedCode(285));
        } else if (length <= 10) {
            bits.code(Deflates.fixedCode(254 + length));
        } else {
            int more = 31 - Integer.numberOfLeadingZeros(length - 3) - 2;
            bits.code(Deflates.fixedCode(257 + 4 * more + (length - 3 >> more)));
            bits.number(length - 3 & (1 << more) - 1, more);
        }
        if (distance <= 4) {
            bits.code(Deflates.word(distance - 1, 5));
        } else {
            int more = 31 - Integer.numberOfLeadingZeros(distance - 1) - 1;
            bits.code(Deflates.word(2 * more + (distance - 1 >> more), 5));
            bits.number(distance - 1 & (1 << more) - 1, more);
        }
    }

    static byte[] gif(int width, int[] points, boolean isInterlaced) {
        int height = points.length / width;
        Map<Integer, Integer> table = new LinkedHashMap<>();
        int[] indices = new int[points.length];
        for (int i = 0; i < points.length; i++) {
            int colour = (points[i] & 255) < 128 ? -1 : points[i] >>> 8;
            table.putIfAbsent(colour, table.size());
            indices[i] = table.get(colour);
        }
        int bits = 1;
        while (1 << bits < table.size()) {
            bits++;
        }
        byte[] colours = new byte[3 << bits];
        for (Map.Entry<Integer, Integer> entry : table.entrySet()) {
            int colour = Math.max(entry.getKey(), 0);
            colours[3 * entry.getValue()] = (byte) (colour >> 16);
            colours[3 * entry.getValue() + 1] = (byte) (colour >> 8);
            colours[3 * entry.getValue() + 2] = (byte) colour;
        }
        byte[] clear = !table.containsKey(-1) ? new byte[0] : Desks.bytes(33, 249, 4, 1, 0, 0, table.get(-1), 0);
        int m = Math.max(2, bits);
        byte[] lzw = lzw(m, isInterlaced ? interlaced(width, indices) : indices);
        ByteArrayOutputStream subs = new ByteArrayOutputStream();
        for (int at = 0; at < lzw.length; at += 255) {
            int n = Math.min(255, lzw.length - at);
            subs.write(n);
            subs.write(lzw, at, n);
        }
        return Desks.join("GIF89a".getBytes(), Desks.little2(width), Desks.little2(height),
                Desks.bytes(128 + 16 * (bits - 1) + bits - 1, 0, 0), colours, clear, Desks.bytes(44, 0, 0, 0, 0),
                Desks.little2(width), Desks.little2(height), Desks.bytes(isInterlaced ? 64 : 0, m), subs.toByteArray(),
                Desks.bytes(0, 59));
    }

    private static int[] interlaced(int width, int[] indices) {
        int[] made = new int[indices.length];
        int k = 0;
        for (int[] pass : new int[][] {{0, 8}, {4, 8}, {2, 4}, {1, 2}}) {
            for (int y = pass[0]; y < indices.length / width; y += pass[1]) {
                System.arraycopy(indices, y * width, made, k, width);
                k += width;
            }
        }
        return made;
    }

    private static byte[] lzw(int m, int[] indices) {
        Desks.Bits bits = new Desks.Bits().number(1 << m, m + 1);
        Map<List<Integer>, Integer> rows = new HashMap<>();
        int next = (1 << m) + 2;
        int sinceBeginning = 0;
        boolean isFull = false;
        int at = 0;
        while (at < indices.length) {
            List<Integer> row = new ArrayList<>();
            row.add(indices[at++]);
            int code = row.get(0);
            while (at < indices.length) {
                row.add(indices[at]);
                if (!rows.containsKey(row)) {
                    break;
                }
                code = rows.get(row);
                at++;
            }
            bits.number(code, readersBits(m, sinceBeginning));
            sinceBeginning++;
            if (isFull) {
                bits.number(1 << m, readersBits(m, sinceBeginning));
                rows.clear();
                next = (1 << m) + 2;
                sinceBeginning = 0;
                isFull = false;
            } else if (at < indices.length) {
                rows.put(row, next);
                isFull = next == 4095;
                next++;
            }
        }
        return bits.number((1 << m) + 1, readersBits(m, sinceBeginning)).bytes();
    }

    /** A reader that has had so many codes since a beginning has one row less than those. */
    private static int readersBits(int m, int codes) {
        int next = (1 << m) + 2 + Math.max(0, codes - 1);
        int bits = m + 1;
        while (bits < 12 && next >= 1 << bits) {
            bits++;
        }
        return bits;
    }

    static byte[] plainBmp(int width, int[] points) {
        int height = points.length / width;
        ByteArrayOutputStream rows = new ByteArrayOutputStream();
        for (int y = height - 1; y >= 0; y--) {
            for (int x = 0; x < width; x++) {
                int point = points[y * width + x];
                rows.write(point >> 8);
                rows.write(point >> 16);
                rows.write(point >> 24);
            }
            while (rows.size() % 4 != 0) {
                rows.write(0);
            }
        }
        return Desks.join(bmpHead(54 + rows.size(), 54, width, height, 24, 0), new byte[20], rows.toByteArray());
    }

    private static byte[] bmpHead(int length, int start, int width, int height, int depth, int packing) {
        return Desks.join("BM".getBytes(), Desks.little4(length), Desks.little4(0), Desks.little4(start),
                Desks.little4(40), Desks.little4(width), Desks.little4(height), Desks.little2(1), Desks.little2(depth),
                Desks.little4(packing));
    }

    static byte[] runBmp(int width, int[] points) {
        int height = points.length / width;
        Map<Integer, Integer> table = new LinkedHashMap<>();
        for (int point : points) {
            table.putIfAbsent(point >>> 8, table.size());
        }
        ByteArrayOutputStream made = new ByteArrayOutputStream();
        for (int colour : table.keySet()) {
            made.writeBytes(Desks.bytes(colour, colour >> 8, colour >> 16, 0));
        }
        for (int y = height - 1; y >= 0; y--) {
            int x = 0;
            while (x < width) {
                int colour = points[y * width + x] >>> 8;
                int n = 0;
                while (n < 255 && x + n < width && points[y * width + x + n] >>> 8 == colour) {
                    n++;
                }
                made.write(n);
                made.write(table.get(colour));
                x += n;
            }
            made.writeBytes(y == 0 ? Desks.bytes(0, 1) : Desks.bytes(0, 0));
        }
        return Desks.join(bmpHead(54 + made.size(), 54 + 4 * table.size(), width, height, 8, 1), new byte[12],
                Desks.little4(table.size()), new byte[4], made.toByteArray());
    }
}
