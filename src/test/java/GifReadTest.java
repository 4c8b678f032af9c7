import java.util.ArrayList;
import java.util.Arrays;
import java.util.HashMap;
import java.util.List;
import java.util.Map;
import java.util.Random;

/** Promise 6, GIF: large images packed by a writer of its own, in SUBS of any length. */
public final class GifReadTest {
    public static void main(String[] args) {
        subs();
        fullTable();
        Check.finish();
    }

    /** A writer of its own, with a map of texts; with restarts it begins anew at 4096 rows, else it goes on. */
    private static byte[] packed(int m, int[] indices, boolean restarts) {
        List<Integer> codes = new ArrayList<>();
        Map<String, Integer> rows = new HashMap<>();
        codes.add(1 << m);
        int at = 0;
        int next = (1 << m) + 2;
        while (at < indices.length) {
            String text = "" + (char) indices[at];
            int code = indices[at];
            at++;
            while (at < indices.length && rows.containsKey(text + (char) indices[at])) {
                text += (char) indices[at];
                code = rows.get(text);
                at++;
            }
            codes.add(code);
            if (at < indices.length && next < 4096) {
                rows.put(text + (char) indices[at], next);
                next++;
            } else if (next == 4096 && restarts) {
                codes.add(1 << m);
                rows.clear();
                next = (1 << m) + 2;
            }
        }
        codes.add((1 << m) + 1);
        return Gifs.codes(m, codes.stream().mapToInt(Integer::intValue).toArray());
    }

    private static void subs() {
        Random random = new Random(5);
        int[] indices = random.ints(900, 0, 4).toArray();
        byte[] lzw = packed(2, indices, true);
        byte[] before = Arrays.copyOf(Gifs.image(30, 30, 2, Gifs.NONE), 11);
        for (int most : new int[] {1, 2, 7, 254, 255}) {
            byte[] file = Gifs.file(30, 30, before, Gifs.subs(lzw, most), Gifs.extension(254, 1, 5, 0));
            Desks.reads("subs of " + most, file, 1, 30, Gifs.colours(indices));
        }
    }

    /** More rows than there can be, both with a beginning at 4096 and without. */
    private static void fullTable() {
        for (int m = 2; m <= 8; m++) {
            for (int run = 0; run < 2; run++) {
                Random random = new Random(m);
                byte[] table = new byte[768];
                random.nextBytes(table);
                int[] indices = new int[16384];
                int[] due = new int[16384];
                for (int k = 0; k < 16384; k++) {
                    indices[k] = random.nextInt(3) == 0 ? random.nextInt(1 << m) : k / 50 % 3;
                    due[k] = Gifs.colour(table, indices[k]);
                }
                byte[] block = Gifs.image(0, 0, 128, 128, 0, Gifs.NONE, m, packed(m, indices, run == 0));
                byte[] file = Desks.join(Gifs.head(128, 128, 135, table), block, Gifs.END);
                Desks.reads("a full table, m " + m + ", run " + run, file, 1, 128, due);
            }
        }
        int[] same = new int[16384];
        int[] due = new int[16384];
        Arrays.fill(due, Gifs.COLOURS[0]);
        byte[] block = Gifs.image(0, 0, 1, 16384, 64, Gifs.NONE, 2, packed(2, same, true));
        Desks.reads("one colour", Gifs.file(1, 16384, block), 1, 1, due);
    }
}
