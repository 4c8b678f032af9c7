import java.util.Arrays;
import java.util.Random;
import java.util.zip.CRC32;

/** Any calls with any numbers: nothing is thrown but what the document names, and what throws changes nothing. */
public final class RoughTest {
    public static void main(String[] args) {
        spoiltFiles();
        anyCalls();
        Check.finish();
    }

    /** Files that the desk wrote, with some bytes changed, moved or cut off. */
    private static void spoiltFiles() {
        Random random = new Random(3);
        int[] ends = new int[3];
        for (int round = 0; round < 12000; round++) {
            byte[] file = spoilt(written(random), random);
            PictureDesk desk = new PictureDesk();
            desk.make(0, 2, 2, 9);
            Desks.load(desk, file);
            String name = tried(() -> desk.read(0));
            boolean isAllowed = name.isEmpty() || name.equals("UnsupportedOperationException")
                    || name.equals("IndexOutOfBoundsException");
            Check.due("round " + round + " of spoilt files, which threw " + name, isAllowed ? 1 : 0, 1);
            ends[name.isEmpty() ? 0 : name.charAt(0) == 'U' ? 1 : 2]++;
            if (!name.isEmpty()) {
                Check.due("a slot behind a refused file", desk.hash(0), 31 * (31 * (31 * (31 + 9) + 9) + 9) + 9);
            }
            Check.due("the tape behind a file", desk.count(0), 0);
        }
        Check.due("spoilt files came to each end " + Arrays.toString(ends), ends[0] > 50 && ends[1] > 50 && ends[2] > 50 ? 1 : 0, 1);
    }

    private static String tried(Runnable call) {
        try {
            call.run();
            return "";
        } catch (RuntimeException e) {
            return e.getClass().getSimpleName();
        }
    }

    private static byte[] written(Random random) {
        PictureDesk desk = new PictureDesk();
        desk.make(0, 1 + random.nextInt(12), 1 + random.nextInt(12), 0);
        desk.paint(0, random.nextInt(), random.nextInt(), 0x03010080);
        int format = random.nextInt(3);
        desk.write(0, format, random.nextInt(format == 0 ? 6 : 2));
        return Desks.result(desk);
    }

    private static byte[] spoilt(byte[] file, Random random) {
        byte[] made = file;
        for (int times = random.nextInt(4); times > 0; times--) {
            int at = random.nextInt(random.nextBoolean() ? made.length : Math.min(60, made.length));
            int way = random.nextInt(10);
            if (way == 0) {
                made = Arrays.copyOf(made, Math.max(1, at));
            } else if (way == 1) {
                made = Desks.join(Arrays.copyOf(made, at), Arrays.copyOfRange(made, Math.min(made.length, at + 1), made.length), Desks.bytes(7));
            } else if (way < 5) {
                made = Desks.with(made, at, random.nextInt(256));
            } else {
                made = Desks.with(made, at, made[at] ^ 1 << random.nextInt(8));
            }
        }
        if (made[0] == 'B' && made.length >= 6 && random.nextInt(8) > 0) {
            made = Desks.with(made, 2, made.length, made.length >> 8, 0, 0);
        }
        if (made[0] == (byte) 137 && random.nextInt(8) > 0) {
            mendCrcs(made);
        }
        return made;
    }

    /** So that what is spoilt is not found by the CRC alone. */
    private static void mendCrcs(byte[] file) {
        int at = 8;
        while (at + 12 <= file.length) {
            int length = (file[at + 2] & 255) << 8 | file[at + 3] & 255;
            if (at + 12 + length > file.length) {
                return;
            }
            CRC32 crc = new CRC32();
            crc.update(file, at + 4, length + 4);
            System.arraycopy(Desks.big4((int) crc.getValue()), 0, file, at + 8 + length, 4);
            at += 12 + length;
        }
    }

    private static void anyCalls() {
        Random random = new Random(4);
        for (int round = 0; round < 60; round++) {
            PictureDesk desk = new PictureDesk();
            for (int calls = 0; calls < 512; calls++) {
                String before = state(desk);
                int which = random.nextInt(14);
                String name = tried(() -> oneCall(desk, which, random));
                Check.due("call " + which + " threw " + name, isAllowed(which, name) ? 1 : 0, 1);
                boolean isKept = name.isEmpty() || which == 4 || before.equals(state(desk));
                Check.due("call " + which + " threw " + name + " and changed something", isKept ? 1 : 0, 1);
            }
        }
    }

    private static String state(PictureDesk desk) {
        StringBuilder told = new StringBuilder();
        for (int what = 0; what < 3; what++) {
            told.append(desk.count(what)).append(' ');
        }
        for (int slot = 0; slot < 4; slot++) {
            int s = slot;
            told.append(tried(() -> told.append(desk.hash(s)).append(' ')));
        }
        return told.append(tried(() -> told.append(desk.word(60)))).toString();
    }

    private static boolean isAllowed(int which, String name) {
        String[] allowed = {"O", "A", "", "A", "AUO", "ASUO", "A", "AS", "AS", "AS", "AS", "AS", "O", "A"};
        switch (name) {
            case "":
                return true;
            case "IllegalArgumentException":
                return allowed[which].contains("A");
            case "IllegalStateException":
                return allowed[which].contains("S");
            case "UnsupportedOperationException":
                return allowed[which].contains("U");
            case "IndexOutOfBoundsException":
                return allowed[which].contains("O");
            default:
                return false;
        }
    }

    private static int any(Random random, int below) {
        int way = random.nextInt(30);
        int[] edges = {-1, below, Integer.MIN_VALUE, Integer.MAX_VALUE, random.nextInt()};
        return way < edges.length ? edges[way] : random.nextInt(below);
    }

    private static void oneCall(PictureDesk desk, int which, Random random) {
        int s = any(random, 4);
        switch (which) {
            case 0: desk.feed(random.nextInt(), 66, random.nextInt(), 2, 1); break;
            case 1: desk.end(any(random, desk.count(0) + 1)); break;
            case 2: desk.again(); break;
            case 3: desk.patch(any(random, desk.count(0) + 1), random.nextInt(), any(random, 6)); break;
            case 4: desk.read(s); break;
            case 5: desk.write(s, any(random, 3), any(random, 6)); break;
            case 6: desk.make(s, any(random, 200), any(random, 100), random.nextInt()); break;
            case 7: desk.set(s, any(random, 100), any(random, 40), random.nextInt()); break;
            case 8: desk.get(s, any(random, 100), any(random, 40)); break;
            case 9: desk.paint(s, random.nextInt(), random.nextInt(), random.nextInt() & random.nextInt() & random.nextInt()); break;
            case 10: desk.hash(s); break;
            case 11: desk.size(s, any(random, 2)); break;
            case 12: desk.word(any(random, desk.count(1) + 9)); break;
            default: desk.count(any(random, 3)); break;
        }
    }
}
