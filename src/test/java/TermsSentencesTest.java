import java.util.Arrays;
import java.util.Random;

/** The section "Terms", but for what it says of each format. */
public final class TermsSentencesTest {
    private static final int LEAST = Integer.MIN_VALUE;
    private static final int MOST = Integer.MAX_VALUE;

    public static void main(String[] args) {
        leastSize();
        mostPoints();
        points();
        slots();
        tapeAndResult();
        orderOfBytes();
        endsOfFiles();
        orderOfExceptions();
        changesNothing();
        Check.finish();
    }

    private static void leastSize() {
        Check.sentence("An IMAGE has a width and height, each at least 1");
        byte[] data = Pngs.data(Pngs.zlib(0, 0));
        int[][] sizes = {{0, 1}, {1, 0}, {0, 0}, {0, 65535}, {65535, 0}};
        for (int[] size : sizes) {
            String told = size[0] + " x " + size[1];
            Desks.refuses("PNG of " + told, Desks.BROKEN, Pngs.file(Pngs.header(size[0], size[1], 8, 0, 0), data));
            Desks.refuses("GIF of " + told, Desks.BROKEN, Gifs.file(size[0], size[1], Gifs.DOT));
            Desks.refuses("BMP of " + told, Desks.BROKEN, Bmps.plain(size[0], size[1], new byte[4]));
            PictureDesk desk = new PictureDesk();
            Check.refuses("make " + told, Desks.RANGE, () -> desk.make(0, size[0], size[1], 0));
        }
        byte[] nothing = Pngs.data(Pngs.zlib());
        for (int[] size : sizes) {
            for (int interlace = 0; interlace <= 1; interlace++) {
                String told = size[0] + " x " + size[1] + " without rows";
                byte[] png = Pngs.file(Pngs.header(size[0], size[1], 8, 0, interlace), nothing);
                Desks.refuses("PNG of " + told, Desks.BROKEN, png);
                Desks.refuses("BMP of " + told, Desks.BROKEN, Bmps.plain(size[0], size[1], Bmps.NONE));
                Desks.refuses("BMP in runs of " + told, Desks.BROKEN, Bmps.runs(size[0], size[1], 0, 1));
            }
        }
        Desks.reads("PNG of 1 x 1", Pngs.file(Pngs.header(1, 1, 8, 0, 0), data), 0, 1, 255);
        Desks.reads("GIF of 1 x 1", Gifs.file(1, 1, Gifs.DOT), 1, 1, Gifs.COLOURS[1]);
        Desks.reads("BMP of 1 x 1", Bmps.plain(1, 1, new byte[4]), 2, 1, 255);
    }

    private static void mostPoints() {
        Check.sentence("together at most 16384 POINTS");
        int[] clear = new int[16384];
        int[] white = new int[16384];
        Arrays.fill(white, -1);
        int[] first = new int[16384];
        first[0] = Gifs.COLOURS[1];
        int[] bmp = new int[16384];
        Arrays.fill(bmp, Bmps.COLOURS[0]);
        for (int[] size : new int[][] {{16384, 1}, {1, 16384}, {128, 128}, {2, 8192}}) {
            int width = size[0];
            int height = size[1];
            String told = width + " x " + height;
            byte[] rows = new byte[height * (8 * width + 1)];
            byte[] file = Pngs.file(Pngs.header(width, height, 16, 6, 0), Pngs.data(Pngs.zlib(rows, 9, 0)));
            Desks.reads("PNG of " + told, file, 0, width, clear);
            Desks.reads("GIF of " + told, Gifs.file(width, height, Gifs.DOT), 1, width, first);
            Desks.reads("BMP of " + told, Bmps.runs(width, height, 0, 1), 2, width, bmp);
        }
        // The most bytes that rows can have: a byte before each row of one point of eight.
        byte[] most = Pngs.zlib(new byte[9 * 16384], 9, 0);
        Desks.reads("PNG of 1 x 16384 in passes", Pngs.file(Pngs.header(1, 16384, 16, 6, 1), Pngs.data(most)), 0, 1, clear);
        int[][] sizes = {{16385, 1}, {1, 16385}, {128, 129}, {129, 128}, {5462, 3}, {65535, 65535}, {32768, 2}};
        for (int[] size : sizes) {
            tooLarge(size[0], size[1]);
            Desks.refuses("GIF of " + size[0], Desks.TOO_LARGE, Gifs.file(size[0], size[1], Gifs.DOT));
        }
        int[][] wrapping = {{65536, 65536}, {MOST, MOST}, {1 << 30, 4}, {46341, 46341}, {MOST, 1}, {1, MOST}, {MOST, 2}};
        for (int[] size : wrapping) {
            tooLarge(size[0], size[1]);
        }
        Desks.refuses("BMP of height -2^31", Desks.TOO_LARGE, Bmps.plain(1, LEAST, new byte[4]));
        Desks.refuses("BMP of height -129", Desks.TOO_LARGE, Bmps.plain(128, -129, new byte[4]));
        byte[] down = Bmps.file(128, -128, 1, 0, 2, Desks.bytes(255, 255, 255, 0, 9, 9, 9, 0), new byte[128 * 16]);
        Desks.reads("BMP of height -128", down, 2, 128, white);
    }

    private static void tooLarge(int width, int height) {
        String told = width + " x " + height;
        byte[] data = Pngs.data(Pngs.zlib(0, 0));
        Desks.refuses("PNG of " + told, Desks.TOO_LARGE, Pngs.file(Pngs.header(width, height, 8, 0, 0), data));
        Desks.refuses("BMP of " + told, Desks.TOO_LARGE, Bmps.plain(width, height, new byte[4]));
        PictureDesk desk = new PictureDesk();
        Check.refuses("make " + told, Desks.RANGE, () -> desk.make(0, width, height, 0));
    }

    private static void points() {
        Check.sentence("each POINT R, G, B, A, 0 .. 255 (told as R 2^24 + G 2^16 + B 2^8 + A, as an int)");
        byte[] head = Pngs.header(4, 1, 8, 6, 0);
        byte[] data = Pngs.data(Pngs.zlib(0, 255, 254, 253, 252, 128, 127, 1, 0, 0, 0, 0, 255, 127, 255, 128, 129));
        Desks.reads("PNG", Pngs.file(head, data), 0, 4, 0xFFFEFDFC, 0x807F0100, 0x000000FF, 0x7FFF8081);
        byte[] table = Desks.bytes(255, 254, 253, 128, 127, 1);
        byte[] gif = Desks.join(Gifs.head(2, 1, 128, table), Gifs.image(2, 1, 2, Gifs.codes(2, 4, 0, 1, 5)), Gifs.END);
        Desks.reads("GIF", gif, 1, 2, 0xFFFEFDFF, 0x807F01FF);
        byte[] rows = Desks.bytes(253, 254, 255, 1, 127, 128, 0, 0);
        Desks.reads("BMP", Bmps.plain(2, 1, rows), 2, 2, 0xFFFEFDFF, 0x807F01FF);
    }

    private static void slots() {
        Check.sentence("SLOTS 0 .. 3 hold an IMAGE, or none (at first).");
        PictureDesk desk = new PictureDesk();
        Check.due("slots that hold one", desk.count(2), 0);
        for (int slot = 0; slot <= 3; slot++) {
            int s = slot;
            Desks.keeps("write of slot " + s, desk, Desks.HOLDS_NONE, () -> desk.write(s, 0, 0));
            Desks.keeps("set of slot " + s, desk, Desks.HOLDS_NONE, () -> desk.set(s, 0, 0, 0));
            Desks.keeps("get of slot " + s, desk, Desks.HOLDS_NONE, () -> desk.get(s, 0, 0));
            Desks.keeps("paint of slot " + s, desk, Desks.HOLDS_NONE, () -> desk.paint(s, 0, 0, 0));
            Desks.keeps("hash of slot " + s, desk, Desks.HOLDS_NONE, () -> desk.hash(s));
            Desks.keeps("size of slot " + s, desk, Desks.HOLDS_NONE, () -> desk.size(s, 0));
        }
        for (int s = 0; s <= 3; s++) {
            desk.make(s, 1, 1, s + 5);
            Check.due("slots that hold one", desk.count(2), s + 1);
        }
        for (int s = 0; s <= 3; s++) {
            Check.due("the point of slot " + s, desk.get(s, 0, 0), s + 5);
        }
    }

    private static void tapeAndResult() {
        Check.sentence("THE TAPE and THE RESULT have at most 65536 bytes.");
        int[] noise = noiseOf(65536);
        PictureDesk desk = Desks.holding(noise.length, noise);
        Check.answers("a result of 65536", 65536, () -> desk.write(0, 0, 0));
        byte[] due = PlainWriters.png(noise.length, noise, 0);
        Check.due("its bytes", Arrays.equals(Desks.result(desk), due) ? 1 : 0, 1);
        Check.answers("its last byte", (long) due[65535] << 56, () -> desk.word(65535));
        Check.refuses("the byte behind it", Desks.TOO_LARGE, () -> desk.word(65536));
        Check.answers("a tape of 65536", 65536, desk::again);
        Desks.keeps("feed to a full tape", desk, Desks.TOO_LARGE, () -> desk.feed(0, 0, 0, 0, 0));
        Check.answers("read of a full tape", 0, () -> desk.read(1));
        Check.due("the image of a full tape", desk.hash(1), desk.hash(0));
        int[] more = noiseOf(65537);
        PictureDesk other = Desks.holding(more.length, more);
        Desks.keeps("a result of 65537", other, Desks.TOO_LARGE, () -> other.write(0, 0, 0));
    }

    /**
     * A row of noise whose PNG has just so many bytes, as no three bytes of what is added come twice: a byte below 144
     * has 8 bits there, others have 9.
     */
    private static int[] noiseOf(int length) {
        Random random = new Random(11);
        int[] noise = random.ints(15450).toArray();
        int lacking = length - PlainWriters.png(noise.length, noise, 0).length;
        int[] points = Arrays.copyOf(noise, noise.length + lacking / 4);
        for (int i = noise.length; i < points.length; i++) {
            int larger = i - noise.length < lacking % 4 * 2 ? 0x80808080 : 0;
            points[i] = 0x10101010 + (random.nextInt() & 0x6F6F6F6F) | larger;
        }
        return points;
    }

    private static void orderOfBytes() {
        Check.sentence("Numbers of two or four bytes: PNG the highest byte first, GIF and BMP the lowest first.");
        int[] due = new int[258];
        Arrays.fill(due, 255);
        byte[] png = Pngs.file(Pngs.header(258, 1, 8, 0, 0), Pngs.data(Pngs.zlib(new byte[259], 9, 0)));
        Check.due("the lowest byte of a PNG's width", png[19], 2);
        Desks.reads("PNG of width 258", png, 0, 258, due);
        int[] dot = new int[258];
        dot[0] = Gifs.COLOURS[1];
        byte[] gif = Gifs.file(258, 1, Gifs.DOT);
        Check.due("the lowest byte of a GIF's width", gif[6], 2);
        Desks.reads("GIF of width 258", gif, 1, 258, dot);
        byte[] bmp = Bmps.plain(258, 1, new byte[776]);
        Check.due("the lowest byte of a BMP's width", bmp[18], 2);
        Desks.reads("BMP of width 258", bmp, 2, 258, due);
    }

    private static void endsOfFiles() {
        Check.sentence("What does not stand here as it may be is BROKEN; so is a file that ends too early,"
                + " or has more behind its end.");
        int[] points = {0x112233FF, 0x44556600, 0x778899FF, 0x112233FF, 0x112233FF, 0x112233FF};
        for (int[] way : new int[][] {{0, 0}, {0, 5}, {1, 0}, {1, 1}, {2, 0}, {2, 1}}) {
            PictureDesk desk = Desks.holding(3, points);
            desk.write(0, way[0], way[1]);
            byte[] whole = Desks.result(desk);
            String told = "format " + way[0] + ", mode " + way[1];
            for (int n = 0; n < whole.length; n++) {
                byte[] cut = Arrays.copyOf(whole, n);
                Desks.refuses(told + ", the first " + n, Desks.BROKEN, cut);
                if (way[0] == 2 && n >= 6) {
                    Desks.refuses(told + ", the first " + n + ", so told", Desks.BROKEN, Desks.with(cut, 2, n));
                }
            }
            for (int more = 0; more < 256; more += 51) {
                byte[] longer = Desks.join(whole, Desks.bytes(more));
                Desks.refuses(told + ", a byte more", Desks.BROKEN, longer);
                if (way[0] == 2) {
                    Desks.refuses(told + ", a byte more, so told", Desks.BROKEN, Desks.with(longer, 2, longer.length));
                }
            }
            Desks.refuses(told + ", twice", Desks.BROKEN, Desks.join(whole, whole));
            staleBytes(told, whole);
        }
    }

    /** What stood on the tape before, behind its end, is no part of the file. */
    private static void staleBytes(String told, byte[] whole) {
        PictureDesk desk = new PictureDesk();
        for (int n = 0; n < whole.length; n++) {
            if (n % 40 == 0) {
                desk = new PictureDesk();
            }
            PictureDesk used = desk;
            Desks.load(used, whole);
            used.end(n);
            Check.refuses(told + ", cut off at " + n, Desks.BROKEN, () -> used.read(0));
        }
    }

    private static void orderOfExceptions() {
        Check.sentence("What is thrown, in this order: IllegalArgumentException: a number out of range;"
                + " IllegalStateException: a SLOT holds none; then as the call says.");
        PictureDesk desk = new PictureDesk();
        Check.refuses("size 2 of none", Desks.RANGE, () -> desk.size(0, 2));
        Check.refuses("size 0 of none", Desks.HOLDS_NONE, () -> desk.size(0, 0));
        Check.refuses("size 2 of slot 4", Desks.RANGE, () -> desk.size(4, 2));
        Check.refuses("write of none, format 3", Desks.RANGE, () -> desk.write(0, 3, 0));
        Check.refuses("write of none, mode 6", Desks.RANGE, () -> desk.write(0, 0, 6));
        Check.refuses("write of none, GIF, mode 2", Desks.RANGE, () -> desk.write(0, 1, 2));
        Check.refuses("write of none, BMP, mode -1", Desks.RANGE, () -> desk.write(0, 2, -1));
        Check.refuses("write of none", Desks.HOLDS_NONE, () -> desk.write(0, 2, 1));
        Check.refuses("get of slot 4, outside", Desks.RANGE, () -> desk.get(4, -1, -1));
        Check.refuses("set of slot -1, outside", Desks.RANGE, () -> desk.set(-1, -1, -1, 0));
        Check.refuses("get of none, outside", Desks.HOLDS_NONE, () -> desk.get(0, -1, -1));
        Check.refuses("set of none, outside", Desks.HOLDS_NONE, () -> desk.set(0, 5, 0, 0));
        Check.refuses("paint of none", Desks.HOLDS_NONE, () -> desk.paint(0, 0, 0, 0));
        Check.refuses("read to slot 4 of an empty tape", Desks.RANGE, () -> desk.read(4));
        Check.refuses("read of an empty tape", Desks.BROKEN, () -> desk.read(0));
        desk.make(0, 1, 16384, 0);
        desk.paint(0, 1, 0, -1);
        Check.refuses("write, too long and of too many colours, mode 2", Desks.RANGE, () -> desk.write(0, 2, 2));
        Check.refuses("write, too long and of too many colours", Desks.BROKEN, () -> desk.write(0, 2, 1));
        Check.refuses("write, too long", Desks.TOO_LARGE, () -> desk.write(0, 2, 0));
    }

    private static void changesNothing() {
        Check.sentence("A call that throws changes nothing, but as said.");
        PictureDesk desk = new PictureDesk();
        desk.make(0, 2, 2, 9);
        desk.write(0, 0, 4);
        desk.make(1, 1, 16384, 7);
        desk.paint(1, 1, 0, -1);
        byte[] file = Bmps.plain(2, 1, Desks.bytes(1, 2, 3, 4, 5, 6, 0, 0));
        Desks.load(desk, file);
        Desks.keeps("end", desk, Desks.RANGE, () -> desk.end(63));
        Desks.keeps("patch", desk, Desks.RANGE, () -> desk.patch(60, -1, 4));
        Desks.keeps("read", desk, Desks.RANGE, () -> desk.read(4));
        Desks.keeps("write of format 3", desk, Desks.RANGE, () -> desk.write(0, 3, 0));
        Desks.keeps("write of none", desk, Desks.HOLDS_NONE, () -> desk.write(2, 0, 0));
        Desks.keeps("write of many colours", desk, Desks.BROKEN, () -> desk.write(1, 1, 0));
        Desks.keeps("write of many colours, runs", desk, Desks.BROKEN, () -> desk.write(1, 2, 1));
        Desks.keeps("write, too long", desk, Desks.TOO_LARGE, () -> desk.write(1, 2, 0));
        Desks.keeps("make", desk, Desks.RANGE, () -> desk.make(0, 200, 200, 1));
        Desks.keeps("set", desk, Desks.RANGE, () -> desk.set(0, 2, 0, 1));
        Desks.keeps("set of none", desk, Desks.HOLDS_NONE, () -> desk.set(2, 0, 0, 1));
        Desks.keeps("get", desk, Desks.RANGE, () -> desk.get(0, 0, 2));
        Desks.keeps("paint", desk, Desks.HOLDS_NONE, () -> desk.paint(3, 1, 1, -1));
        Desks.keeps("hash", desk, Desks.HOLDS_NONE, () -> desk.hash(3));
        Desks.keeps("size", desk, Desks.RANGE, () -> desk.size(0, 2));
        Desks.keeps("word", desk, Desks.TOO_LARGE, () -> desk.word(-1));
        Desks.keeps("count", desk, Desks.RANGE, () -> desk.count(3));
        Check.answers("read of the tape, which is whole still", 2, () -> desk.read(2));
        Check.due("its first point", desk.get(2, 0, 0), 0x030201FF);
        Check.due("its last point", desk.get(2, 1, 0), 0x060504FF);
        brokenReads();
    }

    /** Files that are found broken at their end leave the slots alone, whatever was unpacked before. */
    private static void brokenReads() {
        int[] points = {0x112233FF, 0x445566FF, 0x778899FF, 0x112233FF};
        for (int[] way : new int[][] {{0, 0}, {1, 0}, {2, 0}, {2, 1}}) {
            PictureDesk desk = Desks.holding(2, points);
            desk.make(1, 3, 3, 8);
            desk.write(0, way[0], way[1]);
            int length = desk.again();
            if (way[0] == 2) {
                desk.patch(2, length - 1, 1);
            }
            desk.end(length - 1);
            int[] before = {desk.hash(0), desk.hash(1), desk.size(1, 0), desk.count(1)};
            Check.refuses("a file that lacks its last byte", Desks.BROKEN, () -> desk.read(1));
            Check.due("the slot it was read to", desk.hash(1), before[1]);
            Check.due("the width of that slot", desk.size(1, 0), before[2]);
            Check.due("the other slot", desk.hash(0), before[0]);
            Check.due("the result", desk.count(1), before[3]);
            Check.due("slots that hold one", desk.count(2), 2);
            Check.refuses("a slot that held none", Desks.HOLDS_NONE, () -> desk.hash(2));
        }
    }
}
