import java.util.Arrays;
import java.util.Random;
import java.util.zip.DataFormatException;
import java.util.zip.Inflater;

/** Promise 6, the DEFLATE of PNG, against the one of the Java library. */
public final class InflateTest {
    public static void main(String[] args) {
        againstTheLibrary();
        Check.finish();
    }

    /** Files with a bit turned are given, or refused, as java.util.zip does; ADLER is made right for what it gives. */
    private static void againstTheLibrary() {
        Random random = new Random(20261115);
        int given = 0;
        for (int round = 0; round < 6000; round++) {
            byte[] rows = new byte[1 + random.nextInt(300)];
            for (int k = 1; k < rows.length; k++) {
                rows[k] = (byte) (random.nextInt(4) == 0 ? random.nextInt(256) : random.nextInt(3));
            }
            byte[] zlib = Pngs.zlib(rows, 1 + random.nextInt(9), random.nextInt(3));
            byte[] deflate = Arrays.copyOfRange(zlib, 2, zlib.length - 4);
            for (int turns = random.nextInt(3); turns > 0; turns--) {
                int bit = random.nextInt(Math.min(deflate.length, random.nextBoolean() ? 20 : 400) * 8);
                deflate[bit / 8] ^= (byte) (1 << bit % 8);
            }
            byte[] gives = inflated(deflate);
            if (gives == null || gives.length < 2 || gives[0] < 0 || gives[0] > 4) {
                byte[] file = Deflates.png(Pngs.zlibRound(deflate, rows), Math.max(1, rows.length - 1));
                Desks.refuses("round " + round, Desks.BROKEN, file);
                continue;
            }
            given++;
            PictureDesk desk = new PictureDesk();
            Desks.load(desk, Deflates.png(Pngs.zlibRound(deflate, gives), gives.length - 1));
            Check.answers("round " + round, 0, () -> desk.read(0));
        }
        Check.due("enough rounds gave rows", given > 1500 ? 1 : 0, 1);
    }

    private static byte[] inflated(byte[] deflate) {
        Inflater inflater = new Inflater(true);
        inflater.setInput(deflate);
        byte[] room = new byte[16385];
        try {
            int n = inflater.inflate(room);
            boolean isWhole = inflater.finished() && inflater.getRemaining() == 0;
            return isWhole ? Arrays.copyOf(room, n) : null;
        } catch (DataFormatException e) {
            return null;
        } finally {
            inflater.end();
        }
    }
}
