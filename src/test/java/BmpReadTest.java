import java.util.Random;

/** Promise 6, BMP: every depth in many sizes, from the bottom and from the top. */
public final class BmpReadTest {
    public static void main(String[] args) {
        everyDepth();
        Check.finish();
    }

    private static void everyDepth() {
        for (int depth : new int[] {1, 4, 8, 24, 32}) {
            for (int width : new int[] {1, 2, 3, 4, 5, 7, 8, 9, 31, 32, 33}) {
                for (int height : new int[] {1, 2, 5, -1, -2, -5}) {
                    oneFile(depth, width, height);
                }
            }
        }
    }

    private static void oneFile(int depth, int width, int height) {
        Random random = new Random(depth * 10000L + width * 100L + height);
        int used = depth > 8 ? 0 : random.nextInt((1 << depth) + 1);
        int colours = depth > 8 ? 0 : used == 0 ? 1 << depth : used;
        byte[] table = new byte[4 * colours];
        random.nextBytes(table);
        int n = (width * depth + 31) / 32 * 4;
        int rows = Math.abs(height);
        byte[] data = new byte[n * rows];
        random.nextBytes(data);
        int[] due = new int[width * rows];
        for (int row = 0; row < rows; row++) {
            int y = height < 0 ? row : rows - 1 - row;
            for (int x = 0; x < width; x++) {
                if (depth > 8) {
                    due[y * width + x] = Bmps.colour(data, row * n + x * depth / 8);
                    continue;
                }
                int index = random.nextInt(colours);
                int bit = x * depth;
                int shift = 8 - depth - bit % 8;
                int at = row * n + bit / 8;
                data[at] = (byte) (data[at] & ~((1 << depth) - 1 << shift) | index << shift);
                due[y * width + x] = Bmps.colour(table, 4 * index);
            }
        }
        String what = "depth " + depth + ", " + width + " x " + height + ", used " + used;
        Desks.reads(what, Bmps.file(width, height, depth, 0, used, table, data), 2, width, due);
    }
}
