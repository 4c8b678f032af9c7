import java.util.Arrays;

/** BMP files put together from their numbers. */
final class Bmps {
    static final byte[] THREE = Desks.bytes(3, 2, 1, 0, 6, 5, 4, 9, 9, 8, 7, 255);
    static final int[] COLOURS = {0x010203FF, 0x040506FF, 0x070809FF};
    static final byte[] NONE = new byte[0];

    private Bmps() {}

    /** The 54 bytes, for a file of that length whose rows are at start. */
    static byte[] head(int length, int start, int width, int height, int depth, int packing, int used) {
        return Desks.join("BM".getBytes(), Desks.little4(length), Desks.bytes(1, 2, 3, 4), Desks.little4(start),
                Desks.little4(40), Desks.little4(width), Desks.little4(height), Desks.little2(1), Desks.little2(depth),
                Desks.little4(packing), Desks.bytes(1, 2, 3, 4, 5, 6, 7, 8, 9, 10, 11, 12), Desks.little4(used),
                Desks.bytes(5, 6, 7, 8));
    }

    static byte[] file(int width, int height, int depth, int packing, int used, byte[] colours, byte[] rows) {
        int start = 54 + colours.length;
        return Desks.join(head(start + rows.length, start, width, height, depth, packing, used), colours, rows);
    }

    /** Rows of depth 24. */
    static byte[] plain(int width, int height, byte[] rows) {
        return file(width, height, 24, 0, 0, NONE, rows);
    }

    static byte[] runs(int width, int height, int... runs) {
        return file(width, height, 8, 1, 3, THREE, Desks.bytes(runs));
    }

    /** The runs give these indices of the three colours, told from the top. */
    static void runsGive(String what, int width, int[] runs, int... indices) {
        Desks.reads(what, runs(width, indices.length / width, runs), 2, width, colours(indices));
    }

    static void runsBroken(String what, int width, int height, int... runs) {
        Desks.refuses(what, Desks.BROKEN, runs(width, height, runs));
    }

    static int[] colours(int... indices) {
        return Arrays.stream(indices).map(index -> COLOURS[index]).toArray();
    }

    /** The colour of B, G, R that stand there. */
    static int colour(byte[] bytes, int at) {
        return (bytes[at + 2] & 255) << 24 | (bytes[at + 1] & 255) << 16 | (bytes[at] & 255) << 8 | 255;
    }
}
