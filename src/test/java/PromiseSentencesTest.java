import java.util.Arrays;
import java.util.Random;

/** The sections "Promise 1" to "Promise 15", but for the files that are read and written there. */
public final class PromiseSentencesTest {
    private static final int LEAST = Integer.MIN_VALUE;
    private static final int MOST = Integer.MAX_VALUE;
    private static final int[] NO_SLOTS = {-1, 4, LEAST, MOST};

    public static void main(String[] args) {
        newObject();
        feedBytes();
        feedFull();
        feedLength();
        end();
        endRange();
        again();
        againLength();
        patchRange();
        patchBytes();
        readSlot();
        readEmpties();
        readFormat();
        readHolds();
        readTooLarge();
        readAnswers();
        writeModes();
        writeResult();
        writeColours();
        writeLength();
        writeAnswers();
        makeRange();
        makeTooLarge();
        makePoints();
        setRange();
        setAnswers();
        get();
        paintBits();
        paintOthers();
        hash();
        size();
        word();
        wordBeyond();
        count();
        countRange();
        Check.finish();
    }

    private static void newObject() {
        Check.sentence("THE TAPE and THE RESULT are empty.");
        PictureDesk desk = new PictureDesk();
        Check.due("the tape", desk.count(0), 0);
        Check.due("the result", desk.count(1), 0);
        Check.refuses("the first byte of an empty result", Desks.TOO_LARGE, () -> desk.word(0));
        Check.refuses("patch of the first byte of an empty tape", Desks.RANGE, () -> desk.patch(0, 0, 1));
        Check.refuses("end beyond an empty tape", Desks.RANGE, () -> desk.end(1));
        Check.answers("end of an empty tape", 0, () -> desk.end(0));
        Check.answers("again of an empty result", 0, desk::again);
        Check.refuses("read of an empty tape", Desks.BROKEN, () -> desk.read(0));
    }

    private static void feedBytes() {
        Check.sentence("The 20 bytes of five ints, the highest of each first, come to the TAPE");
        PictureDesk desk = new PictureDesk();
        desk.feed(0x424D3A00, 0, 0x00003600, 0x00002800, 0x00000100);
        desk.feed(0x00000100, 0x00000100, 0x18000000, 0, 0);
        desk.feed(0, 0, 0, 0x0000F122, 0xE3000000);
        desk.end(58);
        Check.answers("read of a BMP of one point", 2, () -> desk.read(0));
        Check.due("the point", desk.get(0, 0, 0), 0xE322F1FF);
    }

    /** A desk whose tape has so many bytes, 65534 at most. */
    private static PictureDesk taped(int n) {
        PictureDesk desk = new PictureDesk();
        desk.make(0, 1, 16370, 5);
        desk.write(0, 2, 0);
        desk.again();
        desk.end(n);
        return desk;
    }

    private static void feedFull() {
        Check.sentence("it would have more than 65536: IndexOutOfBoundsException");
        PictureDesk desk = taped(65517);
        Desks.keeps("feed to 65537", desk, Desks.TOO_LARGE, () -> desk.feed(1, 2, 3, 4, 5));
        desk.end(65516);
        Check.answers("feed to 65536", 65536, () -> desk.feed(0, 0, 0, 0, 0));
        Desks.keeps("feed to 65556", desk, Desks.TOO_LARGE, () -> desk.feed(1, 2, 3, 4, 5));
        PictureDesk other = taped(65534);
        Desks.keeps("feed to 65554", other, Desks.TOO_LARGE, () -> other.feed(1, 2, 3, 4, 5));
        PictureDesk fed = new PictureDesk();
        for (int n = 20; n <= 65520; n += 20) {
            fed.feed(0, 0, 0, 0, 0);
        }
        Check.due("the tape of 3276 feeds", fed.count(0), 65520);
        Desks.keeps("the feed behind them", fed, Desks.TOO_LARGE, () -> fed.feed(0, 0, 0, 0, 0));
    }

    private static void feedLength() {
        Check.sentence("Answers its length.");
        PictureDesk desk = new PictureDesk();
        Check.answers("the first feed", 20, () -> desk.feed(LEAST, MOST, -1, 0, 1));
        Check.answers("the second feed", 40, () -> desk.feed(0, 0, 0, 0, 0));
        desk.end(1);
        Check.answers("a feed behind one byte", 21, () -> desk.feed(0, 0, 0, 0, 0));
        desk.end(0);
        Check.answers("a feed behind none", 20, () -> desk.feed(0, 0, 0, 0, 0));
    }

    private static void end() {
        Check.sentence("The TAPE keeps its first n bytes");
        PictureDesk desk = new PictureDesk();
        Desks.load(desk, Bmps.plain(1, 1, Desks.bytes(1, 2, 3, 0)));
        desk.feed(-1, -1, -1, -1, -1);
        Check.answers("end of what is too much", 58, () -> desk.end(58));
        Check.answers("read of what was kept", 2, () -> desk.read(0));
        Check.due("the point that was kept", desk.get(0, 0, 0), 0x030201FF);
        desk.feed(0x89504E47, 0, 0, 0, 0);
        desk.end(0);
        Check.due("the tape behind end 0", desk.count(0), 0);
        Check.refuses("read behind end 0", Desks.BROKEN, () -> desk.read(0));
    }

    private static void endRange() {
        Check.sentence("n 0 .. its length. Answers n.");
        PictureDesk desk = new PictureDesk();
        desk.feed(1, 2, 3, 4, 5);
        for (int n : new int[] {-1, 21, LEAST, MOST}) {
            Desks.keeps("end " + n, desk, Desks.RANGE, () -> desk.end(n));
        }
        Check.answers("end at the length", 20, () -> desk.end(20));
        Check.answers("end", 19, () -> desk.end(19));
        Desks.keeps("end beyond what was kept", desk, Desks.RANGE, () -> desk.end(20));
        Check.answers("end 0", 0, () -> desk.end(0));
        Desks.keeps("end beyond none", desk, Desks.RANGE, () -> desk.end(1));
        PictureDesk full = taped(65516);
        full.feed(0, 0, 0, 0, 0);
        Desks.keeps("end beyond a full tape", full, Desks.RANGE, () -> full.end(65537));
        Check.answers("end of a full tape", 65536, () -> full.end(65536));
    }

    private static void again() {
        Check.sentence("The TAPE is what the RESULT is; the RESULT stays.");
        PictureDesk desk = Desks.holding(2, 0x010203FF, 0x040506FF);
        int length = desk.write(0, 2, 0);
        for (int k = 0; k < 10; k++) {
            desk.feed(-1, -1, -1, -1, -1);
        }
        Check.answers("again over a longer tape", length, desk::again);
        Check.due("the tape", desk.count(0), length);
        Check.due("the result", desk.count(1), length);
        desk.patch(54, 0x090807, 3);
        Check.answers("read of the patched tape", 2, () -> desk.read(1));
        Check.due("the patched point", desk.get(1, 0, 0), 0x070809FF);
        Check.due("the result's bytes", desk.word(54), 0x0302010605040000L);
        desk.again();
        desk.read(1);
        Check.due("the result is not patched", desk.get(1, 0, 0), 0x010203FF);
    }

    private static void againLength() {
        Check.sentence("Answers its length.");
        PictureDesk desk = new PictureDesk();
        desk.feed(1, 2, 3, 4, 5);
        Check.answers("again of an empty result", 0, desk::again);
        Check.due("the tape behind it", desk.count(0), 0);
        desk.make(0, 1, 16370, 0);
        desk.write(0, 2, 0);
        Check.answers("again of a long result", 65534, desk::again);
        desk.make(0, 1, 1, 0);
        desk.write(0, 2, 0);
        Check.due("the tape behind another write", desk.count(0), 65534);
        Check.answers("again of a short result", 58, desk::again);
    }

    private static void patchRange() {
        Check.sentence("n 1 .. 4, i a byte of the TAPE, not beyond its length less n");
        PictureDesk desk = new PictureDesk();
        Desks.keeps("patch of an empty tape", desk, Desks.RANGE, () -> desk.patch(0, 0, 1));
        Desks.keeps("patch before an empty tape", desk, Desks.RANGE, () -> desk.patch(-4, 0, 4));
        desk.feed(0, 0, 0, 0, 0);
        for (int n : new int[] {0, 5, -1, LEAST, MOST}) {
            Desks.keeps("patch of " + n + " bytes", desk, Desks.RANGE, () -> desk.patch(0, 0, n));
        }
        for (int bytes = 1; bytes <= 4; bytes++) {
            int n = bytes;
            desk.patch(0, 0, n);
            desk.patch(20 - n, 0, n);
            for (int i : new int[] {-1, 21 - n, 20, 21, LEAST, MOST, MOST - 3}) {
                Desks.keeps("patch " + i + " of " + n, desk, Desks.RANGE, () -> desk.patch(i, 0, n));
            }
        }
        desk.end(3);
        Desks.keeps("four bytes in a tape of three", desk, Desks.RANGE, () -> desk.patch(0, 0, 4));
        desk.patch(0, 0, 3);
        Check.due("the tape behind patches", desk.count(0), 3);
        PictureDesk full = taped(65516);
        full.feed(0, 0, 0, 0, 0);
        full.patch(65532, -1, 4);
        Desks.keeps("patch beyond a full tape", full, Desks.RANGE, () -> full.patch(65533, -1, 4));
    }

    private static void patchBytes() {
        Check.sentence("there stand the lowest n bytes of v, the highest first");
        int[] due = {0x7777D4FF, 0x77D4C3FF, 0xD4C3B2FF, 0xC3B2A1FF};
        for (int n = 1; n <= 4; n++) {
            PictureDesk desk = new PictureDesk();
            Desks.load(desk, Bmps.plain(1, 1, Desks.bytes(0x77, 0x77, 0x77, 0x77)));
            desk.patch(54, 0xA1B2C3D4, n);
            Check.due("the tape", desk.count(0), 58);
            desk.read(1);
            Check.due("patch of " + n, desk.get(1, 0, 0), due[n - 1]);
        }
        PictureDesk desk = new PictureDesk();
        byte[] file = Bmps.plain(1, 1, Desks.bytes(1, 2, 3, 4));
        Desks.load(desk, Desks.with(file, 0, 0, 0, 0, 0));
        desk.patch(0, 0x424D3A00, 4);
        Check.answers("patch of the first bytes", 2, () -> desk.read(1));
        Desks.load(desk, file);
        desk.patch(57, 255, 1);
        Check.answers("patch of the last byte, which fills a row", 2, () -> desk.read(1));
        Check.due("the point before it", desk.get(1, 0, 0), 0x030201FF);
    }

    private static void readSlot() {
        Check.sentence("s 0 .. 3 (so for all).");
        PictureDesk desk = new PictureDesk();
        for (int s : NO_SLOTS) {
            Check.refuses("read to slot " + s, Desks.RANGE, () -> desk.read(s));
            Check.refuses("write of slot " + s, Desks.RANGE, () -> desk.write(s, 0, 0));
            Check.refuses("make in slot " + s, Desks.RANGE, () -> desk.make(s, 1, 1, 0));
            Check.refuses("set of slot " + s, Desks.RANGE, () -> desk.set(s, 0, 0, 0));
            Check.refuses("get of slot " + s, Desks.RANGE, () -> desk.get(s, 0, 0));
            Check.refuses("paint of slot " + s, Desks.RANGE, () -> desk.paint(s, 0, 0, 0));
            Check.refuses("hash of slot " + s, Desks.RANGE, () -> desk.hash(s));
            Check.refuses("size of slot " + s, Desks.RANGE, () -> desk.size(s, 0));
        }
        for (int slot = 0; slot <= 3; slot++) {
            int s = slot;
            Desks.load(desk, Bmps.plain(1, 1, Desks.bytes(s, 0, 0, 0)));
            Check.answers("read to slot " + s, 2, () -> desk.read(s));
            Check.answers("set of slot " + s, 256 * s + 255, () -> desk.set(s, 0, 0, 9));
            desk.paint(s, 0, s, -1);
            Check.answers("get of slot " + s, s, () -> desk.get(s, 0, 0));
            Check.answers("hash of slot " + s, 31 + s, () -> desk.hash(s));
            Check.answers("size of slot " + s, 1, () -> desk.size(s, 1));
            Check.answers("write of slot " + s, 58, () -> desk.write(s, 2, 0));
            desk.make(s, 2, 1, s);
            Check.answers("size of slot " + s, 2, () -> desk.size(s, 0));
        }
        Check.due("slots that hold one", desk.count(2), 4);
    }

    private static void readEmpties() {
        Check.sentence("The TAPE, which is empty then (also if this throws, but for s)");
        PictureDesk desk = new PictureDesk();
        byte[] good = Bmps.plain(1, 1, Desks.bytes(1, 2, 3, 4));
        Desks.load(desk, good);
        for (int s : NO_SLOTS) {
            Desks.keeps("read to slot " + s, desk, Desks.RANGE, () -> desk.read(s));
        }
        Check.answers("the tape is whole behind those", 2, () -> desk.read(0));
        Check.due("the tape behind a read", desk.count(0), 0);
        Desks.load(desk, Desks.with(good, 0, 77));
        Check.refuses("read of a broken file", Desks.BROKEN, () -> desk.read(0));
        Check.due("the tape behind a broken file", desk.count(0), 0);
        Desks.load(desk, Bmps.plain(200, 200, Bmps.NONE));
        Check.refuses("read of a too large file", Desks.TOO_LARGE, () -> desk.read(0));
        Check.due("the tape behind a too large file", desk.count(0), 0);
        Check.answers("a feed then", 20, () -> desk.feed(0, 0, 0, 0, 0));
    }

    private static void readFormat() {
        Check.sentence("is a file in one of the formats, by its first byte (137, 71, 66)");
        byte[] png = Pngs.file(Pngs.header(1, 1, 8, 0, 0), Pngs.data(Pngs.zlib(0, 5)));
        byte[] gif = Gifs.file(1, 1, Gifs.DOT);
        byte[] bmp = Bmps.plain(1, 1, Desks.bytes(1, 2, 3, 4));
        Desks.reads("PNG", png, 0, 1, 0x050505FF);
        Desks.reads("GIF", gif, 1, 1, Gifs.COLOURS[1]);
        Desks.reads("BMP", bmp, 2, 1, 0x030201FF);
        for (int first = 0; first < 256; first++) {
            for (byte[] file : new byte[][] {png, gif, bmp}) {
                if ((file[0] & 255) != first) {
                    Desks.refuses("first byte " + first, Desks.BROKEN, Desks.with(file, 0, first));
                }
            }
        }
        PictureDesk desk = new PictureDesk();
        Check.refuses("an empty tape", Desks.BROKEN, () -> desk.read(0));
        Desks.load(desk, bmp);
        desk.read(0);
        Check.refuses("the tape that was read before", Desks.BROKEN, () -> desk.read(0));
        Desks.load(desk, bmp);
        desk.end(0);
        Check.refuses("the tape that was cut off", Desks.BROKEN, () -> desk.read(0));
    }

    private static void readHolds() {
        Check.sentence("SLOT s holds its IMAGE.");
        PictureDesk desk = new PictureDesk();
        for (int round = 0; round < 3; round++) {
            for (int s = 0; s < 4; s++) {
                Desks.load(desk, Bmps.plain(1, 1, Desks.bytes(10 * round + s, 0, 0, 0)));
                desk.read(s);
            }
            for (int s = 0; s < 4; s++) {
                Check.due("the image of slot " + s, desk.get(s, 0, 0), (10 * round + s) * 256 + 255);
            }
        }
        desk.make(1, 100, 100, 5);
        Desks.load(desk, Bmps.plain(1, 2, Desks.bytes(1, 0, 0, 0, 2, 0, 0, 0)));
        desk.read(1);
        Check.due("the width of a smaller one", desk.size(1, 0), 1);
        Check.due("the height of a smaller one", desk.size(1, 1), 2);
        Check.due("the hash of a smaller one", desk.hash(1), 31 * (31 + 0x02FF) + 0x01FF);
        Check.due("another slot", desk.get(2, 0, 0), 22 * 256 + 255);
        Desks.load(desk, Bmps.plain(200, 200, Bmps.NONE));
        Check.refuses("a too large one", Desks.TOO_LARGE, () -> desk.read(1));
        Check.due("the slot behind a too large one", desk.hash(1), 31 * (31 + 0x02FF) + 0x01FF);
    }

    private static void readTooLarge() {
        Check.sentence("BROKEN: UnsupportedOperationException; else width times height above 16384: IndexOutOfBoundsException"
                + " (PNG: looked at behind IHDR, GIF: behind both numbers, BMP: behind the 54 bytes before the colours;"
                + " what comes then is not looked at).");
        byte[] rubbish = Desks.bytes(1, 2, 3, 4, 5);
        byte[] png = Desks.join(Pngs.SIGNATURE, Pngs.header(128, 129, 8, 0, 0));
        Desks.refuses("PNG up to IHDR", Desks.TOO_LARGE, png);
        Desks.refuses("PNG and rubbish", Desks.TOO_LARGE, Desks.join(png, rubbish));
        Desks.refuses("PNG whose IHDR lacks a byte", Desks.BROKEN, Arrays.copyOf(png, png.length - 1));
        Desks.refuses("PNG whose IHDR has another CRC", Desks.BROKEN, Desks.with(png, 32, png[32] + 1));
        Desks.refuses("PNG of no kind", Desks.BROKEN, Desks.join(Pngs.SIGNATURE, Pngs.header(128, 129, 8, 1, 0)));
        Desks.refuses("PNG of no depth", Desks.BROKEN, Desks.join(Pngs.SIGNATURE, Pngs.header(128, 129, 5, 0, 0)));
        Desks.refuses("PNG of interlace 2", Desks.BROKEN, Desks.join(Pngs.SIGNATURE, Pngs.header(128, 129, 8, 0, 2)));
        byte[] gif = Arrays.copyOf(Gifs.head(128, 129, 0, Gifs.NONE), 10);
        Desks.refuses("GIF up to both numbers", Desks.TOO_LARGE, gif);
        Desks.refuses("GIF and rubbish", Desks.TOO_LARGE, Desks.join(gif, rubbish));
        Desks.refuses("GIF that lacks a byte of them", Desks.BROKEN, Arrays.copyOf(gif, 9));
        Desks.refuses("GIF80a", Desks.BROKEN, Desks.with(gif, 4, '0'));
        byte[] bmp = Bmps.head(54, 54, 128, 129, 8, 0, 0);
        Desks.refuses("BMP of 54 bytes", Desks.TOO_LARGE, bmp);
        Desks.refuses("BMP and rubbish", Desks.TOO_LARGE, Desks.join(Desks.with(bmp, 2, 59), rubbish));
        Desks.refuses("BMP of 53 bytes", Desks.BROKEN, Arrays.copyOf(Desks.with(bmp, 2, 53), 53));
        Desks.refuses("BMP of another length", Desks.BROKEN, Desks.with(bmp, 2, 55));
        Desks.refuses("BMP of 257 colours", Desks.BROKEN, Bmps.head(54, 54, 128, 129, 8, 0, 257));
        Desks.refuses("BMP of no depth", Desks.BROKEN, Bmps.head(54, 54, 128, 129, 9, 0, 0));
        Desks.refuses("BMP of packing 2", Desks.BROKEN, Bmps.head(54, 54, 128, 129, 8, 2, 0));
        Desks.refuses("BMP whose START is looked at later", Desks.TOO_LARGE, Bmps.head(54, 0, 128, 129, 8, 0, 0));
    }

    private static void readAnswers() {
        Check.sentence("Answers the format: 0 PNG, 1 GIF, 2 BMP.");
        int[][] ways = {{0, 0}, {0, 5}, {1, 0}, {1, 1}, {2, 0}, {2, 1}};
        PictureDesk desk = new PictureDesk();
        for (int[] way : ways) {
            desk.make(0, 3, 2, -1);
            desk.write(0, way[0], way[1]);
            desk.again();
            Check.answers("read of format " + way[0] + ", mode " + way[1], way[0], () -> desk.read(1));
            Check.due("what was read", desk.hash(1), desk.hash(0));
        }
    }

    private static void writeModes() {
        Check.sentence("format 0: mode 0 .. 5; 1, 2: mode 0, 1.");
        PictureDesk desk = Desks.holding(1, 255);
        int[][] wrong = {
            {0, 6}, {0, -1}, {0, LEAST}, {0, MOST}, {1, 2}, {1, -1}, {1, 5}, {2, 2}, {2, -1}, {2, MOST}, {3, 0}, {-1, 0},
            {LEAST, 0}, {MOST, 1}
        };
        for (int[] w : wrong) {
            Desks.keeps("write " + w[0] + " " + w[1], desk, Desks.RANGE, () -> desk.write(0, w[0], w[1]));
        }
        for (int m = 0; m <= 5; m++) {
            int mode = m;
            Check.answers("PNG, mode " + m, desk.write(0, 0, m), () -> desk.write(0, 0, mode));
        }
        Check.answers("GIF, mode 0", 35, () -> desk.write(0, 1, 0));
        Check.answers("GIF, mode 1", 35, () -> desk.write(0, 1, 1));
        Check.answers("BMP, mode 0", 58, () -> desk.write(0, 2, 0));
        Check.answers("BMP, mode 1", 62, () -> desk.write(0, 2, 1));
    }

    private static void writeResult() {
        Check.sentence("THE RESULT is the IMAGE WRITTEN.");
        PictureDesk desk = Desks.holding(1, 0x11223344);
        desk.make(1, 1, 2, 0x55667788);
        desk.feed(1, 2, 3, 4, 5);
        Check.answers("write", 58, () -> desk.write(0, 2, 0));
        Check.due("the result", desk.word(54), 0x3322110000000000L);
        Check.answers("another write", 62, () -> desk.write(1, 2, 0));
        Check.due("the other result", desk.word(54), 0x7766550077665500L);
        Check.answers("the first one again", 58, () -> desk.write(0, 2, 0));
        Check.due("the result then", desk.word(54), 0x3322110000000000L);
        Check.due("the tape stays", desk.count(0), 20);
        Check.due("the image stays", desk.get(0, 0, 0), 0x11223344);
        desk.make(0, 1, 1, 0);
        Check.due("the result stays if the image changes", desk.word(54), 0x3322110000000000L);
    }

    private static void writeColours() {
        Check.sentence("More than 256 colours where a TABLE needs them: UnsupportedOperationException");
        int[] points = new int[257];
        for (int i = 0; i < 257; i++) {
            points[i] = i << 8 | 255;
        }
        PictureDesk more = Desks.holding(257, points);
        more.write(0, 2, 0);
        Desks.keeps("257 colours in GIF", more, Desks.BROKEN, () -> more.write(0, 1, 0));
        Desks.keeps("257 colours in GIF, interlaced", more, Desks.BROKEN, () -> more.write(0, 1, 1));
        Desks.keeps("257 colours in runs", more, Desks.BROKEN, () -> more.write(0, 2, 1));
        Check.answers("257 colours in BMP", 54 + 772, () -> more.write(0, 2, 0));
        Desks.writes("257 colours in PNG", more, 0, 5, PlainWriters.png(257, points, 5));
        points[256] = 7;
        PictureDesk clear = Desks.holding(257, points);
        Desks.keeps("256 colours and TRANSPARENT in GIF", clear, Desks.BROKEN, () -> clear.write(0, 1, 0));
        Desks.writes("A counts for nothing in BMP", clear, 2, 1, PlainWriters.runBmp(257, points));
        points[0] = 7;
        points[256] = 7;
        Desks.writes("255 colours and TRANSPARENT", Desks.holding(257, points), 1, 0, PlainWriters.gif(257, points, false));
        points[0] = 255;
        points[256] = 255;
        Desks.writes("256 colours in GIF", Desks.holding(257, points), 1, 1, PlainWriters.gif(257, points, true));
        Desks.writes("256 colours in runs", Desks.holding(257, points), 2, 1, PlainWriters.runBmp(257, points));
    }

    private static void writeLength() {
        Check.sentence("more than 65536 bytes: IndexOutOfBoundsException");
        PictureDesk desk = new PictureDesk();
        desk.make(0, 1, 16370, 3);
        Check.answers("rows that just fit", 65534, () -> desk.write(0, 2, 0));
        desk.make(0, 1, 16371, 3);
        Desks.keeps("a row more", desk, Desks.TOO_LARGE, () -> desk.write(0, 2, 0));
        desk.make(0, 1, 16369, 3);
        Check.answers("runs that just fit", 65534, () -> desk.write(0, 2, 1));
        desk.make(0, 1, 16370, 3);
        Desks.keeps("a run more", desk, Desks.TOO_LARGE, () -> desk.write(0, 2, 1));
        desk.paint(0, 1, 0, -1);
        Desks.keeps("too long, and too many colours", desk, Desks.BROKEN, () -> desk.write(0, 2, 1));
        int[] noise = new Random(6).ints(16384).toArray();
        PictureDesk noisy = Desks.holding(128, noise);
        for (int m = 0; m <= 5; m++) {
            int mode = m;
            Desks.keeps("noise in PNG, mode " + m, noisy, Desks.TOO_LARGE, () -> noisy.write(0, 0, mode));
        }
        int[] few = {0x11223344, 0x11223344, 0x11223344, 0x55667788};
        noisy.make(0, 2, 2, few[0]);
        noisy.set(0, 1, 1, few[3]);
        Desks.writes("PNG behind refused ones", noisy, 0, 0, PlainWriters.png(2, few, 0));
    }

    private static void writeAnswers() {
        Check.sentence("Answers how many.");
        PictureDesk desk = new PictureDesk();
        for (int[] way : new int[][] {{0, 0}, {0, 5}, {1, 0}, {1, 1}, {2, 0}, {2, 1}}) {
            desk.make(0, 20, 20, -1);
            int longer = desk.write(0, way[0], way[1]);
            Check.due("the result", desk.count(1), longer);
            desk.make(0, 1, 1, -1);
            int shorter = desk.write(0, way[0], way[1]);
            Check.due("the result then", desk.count(1), shorter);
            Check.due("a small image has less bytes", shorter < longer ? 1 : 0, 1);
            Check.refuses("a byte of the longer one", Desks.TOO_LARGE, () -> desk.word(shorter));
        }
    }

    private static void makeRange() {
        Check.sentence("w, h 1 or more");
        PictureDesk desk = new PictureDesk();
        int[][] wrong = {{0, 1}, {1, 0}, {0, 0}, {-1, 1}, {1, -1}, {-1, -1}, {LEAST, 1}, {1, LEAST}, {LEAST, LEAST}, {-2, -8192}};
        for (int[] w : wrong) {
            Desks.keeps("make " + w[0] + " " + w[1], desk, Desks.RANGE, () -> desk.make(0, w[0], w[1], 0));
        }
        desk.make(0, 1, 1, 3);
        Check.due("one point", desk.hash(0), 34);
    }

    private static void makeTooLarge() {
        Check.sentence("w h at most 16384");
        PictureDesk desk = new PictureDesk();
        for (int[] size : new int[][] {{16384, 1}, {1, 16384}, {128, 128}, {5461, 3}, {3, 5461}}) {
            desk.make(3, size[0], size[1], size[0]);
            Check.due("the last point of " + size[0], desk.get(3, size[0] - 1, size[1] - 1), size[0]);
        }
        int[][] wrong = {
            {16385, 1}, {1, 16385}, {128, 129}, {129, 128}, {5462, 3}, {3, 5462}, {65536, 65536}, {46341, 46341},
            {MOST, MOST}, {MOST, 2}, {1 << 30, 4}, {4, 1 << 30}, {LEAST + 1, MOST}, {MOST, 1}, {1, MOST}
        };
        for (int[] w : wrong) {
            Desks.keeps("make " + w[0] + " " + w[1], desk, Desks.RANGE, () -> desk.make(3, w[0], w[1], 0));
            Desks.keeps("make of none " + w[0] + " " + w[1], desk, Desks.RANGE, () -> desk.make(1, w[0], w[1], 0));
        }
    }

    private static void makePoints() {
        Check.sentence("SLOT s holds an IMAGE of that size, all its POINTS are v.");
        PictureDesk desk = new PictureDesk();
        desk.make(2, 3, 2, -7);
        Check.due("the width", desk.size(2, 0), 3);
        Check.due("the height", desk.size(2, 1), 2);
        for (int i = 0; i < 6; i++) {
            Check.due("point " + i, desk.get(2, i % 3, i / 3), -7);
        }
        desk.make(2, 2, 1, LEAST);
        Check.due("a smaller one", desk.hash(2), 31 * (31 + LEAST) + LEAST);
        desk.make(2, 2, 2, 5);
        Check.due("a larger one", desk.hash(2), 31 * (31 * (31 * (31 + 5) + 5) + 5) + 5);
        Check.due("slots that hold one", desk.count(2), 1);
    }

    private static void setRange() {
        Check.sentence("x, y in the IMAGE: else IllegalArgumentException behind the other one.");
        PictureDesk desk = new PictureDesk();
        Check.refuses("set of a slot that holds none, outside", Desks.HOLDS_NONE, () -> desk.set(0, -1, -1, 0));
        Check.refuses("get of a slot that holds none, outside", Desks.HOLDS_NONE, () -> desk.get(0, -1, -1));
        desk.make(0, 3, 2, 4);
        int[][] outside = {
            {3, 0}, {0, 2}, {-1, 0}, {0, -1}, {-1, 1}, {3, -1}, {1, 2}, {3, 2}, {MOST, 0}, {0, LEAST}, {LEAST, MOST},
            {1431655766, 1431655765}
        };
        for (int[] at : outside) {
            String place = at[0] + " " + at[1];
            Desks.keeps("get " + place, desk, Desks.RANGE, () -> desk.get(0, at[0], at[1]));
            Desks.keeps("set " + place, desk, Desks.RANGE, () -> desk.set(0, at[0], at[1], 1));
        }
        for (int[] at : new int[][] {{0, 0}, {2, 0}, {0, 1}, {2, 1}}) {
            Check.answers("set at a corner", 4, () -> desk.set(0, at[0], at[1], 5));
            Check.answers("get at a corner", 5, () -> desk.get(0, at[0], at[1]));
        }
    }

    private static void setAnswers() {
        Check.sentence("That POINT is v. Answers what it was.");
        PictureDesk desk = new PictureDesk();
        desk.make(0, 3, 2, 4);
        desk.make(1, 3, 2, 4);
        Check.answers("set", 4, () -> desk.set(0, 2, 1, LEAST));
        Check.answers("set again", LEAST, () -> desk.set(0, 2, 1, -1));
        Check.answers("set once more", -1, () -> desk.set(0, 2, 1, 4));
        Check.due("all else stays", desk.hash(0), desk.hash(1));
        desk.set(0, 2, 0, 8);
        Check.due("another slot", desk.get(1, 2, 0), 4);
    }

    private static void get() {
        Check.sentence("That POINT.");
        PictureDesk desk = Desks.holding(3, 1, 2, 3, LEAST, MOST, -1);
        int[] due = {1, 2, 3, LEAST, MOST, -1};
        for (int k = 0; k < 6; k++) {
            int i = k;
            Check.answers("point " + i, due[i], () -> desk.get(0, i % 3, i / 3));
        }
        Check.refuses("get of a slot that holds none", Desks.HOLDS_NONE, () -> desk.get(1, 0, 0));
    }

    private static void paintBits() {
        Check.sentence("POINT i, row by row, gets the bits of mask of x i 2654435769 + y, as ints that wrap");
        int[][] numbers = {{1, 0}, {-77, MOST}, {LEAST, 1}, {MOST, MOST}, {-1, LEAST}, {0x12345, -9}, {0, 8}};
        for (int[] n : numbers) {
            PictureDesk desk = new PictureDesk();
            desk.make(0, 3, 2, 0);
            desk.paint(0, n[0], n[1], -1);
            for (int i = 0; i < 6; i++) {
                int due = (int) ((long) n[0] * i * 2654435769L + n[1]);
                Check.due("x " + n[0] + ", y " + n[1] + ", point " + i, desk.get(0, i % 3, i / 3), due);
            }
        }
        PictureDesk largest = new PictureDesk();
        largest.make(0, 16384, 1, 0);
        largest.paint(0, 3, 5, -1);
        Check.due("the last point of the largest", largest.get(0, 16383, 0), (int) (3L * 16383 * 2654435769L + 5));
        Check.refuses("paint of a slot that holds none", Desks.HOLDS_NONE, () -> largest.paint(1, 1, 1, 1));
    }

    private static void paintOthers() {
        Check.sentence("the others stay.");
        PictureDesk desk = new PictureDesk();
        desk.make(0, 2, 1, 0x12345678);
        desk.make(1, 2, 1, 0x12345678);
        for (int mask : new int[] {0, 1, LEAST, 0x00FF0FF0, MOST}) {
            desk.make(0, 2, 1, 0x12345678);
            desk.paint(0, 5, -1, mask);
            Check.due("mask " + mask, desk.get(0, 0, 0), 0x12345678 & ~mask | mask);
            Check.due("mask " + mask + ", behind", desk.get(0, 1, 0),
                    0x12345678 & ~mask | (int) (5 * 2654435769L - 1) & mask);
        }
        Check.due("another slot", desk.get(1, 1, 0), 0x12345678);
    }

    private static void hash() {
        Check.sentence("From h 1 on, 31 h + POINT, row by row; it wraps.");
        PictureDesk desk = Desks.holding(2, 0, -3, LEAST, MOST);
        Check.due("four points", desk.hash(0), 31 * (31 * (31 * (31 * 1 + 0) - 3) + LEAST) + MOST);
        desk.make(1, 1, 1, 0);
        Check.due("one point", desk.hash(1), 31);
        desk.make(1, 1, 1, -31);
        Check.due("one point that gives 0", desk.hash(1), 0);
        desk.make(1, 16384, 1, -1);
        int h = 1;
        for (int i = 0; i < 16384; i++) {
            h = 31 * h - 1;
        }
        Check.due("16384 points", desk.hash(1), h);
        Check.refuses("hash of a slot that holds none", Desks.HOLDS_NONE, () -> desk.hash(2));
    }

    private static void size() {
        Check.sentence("what 0 width, 1 height.");
        PictureDesk desk = new PictureDesk();
        desk.make(2, 16384, 1, 0);
        Check.answers("width", 16384, () -> desk.size(2, 0));
        Check.answers("height", 1, () -> desk.size(2, 1));
        for (int what : new int[] {-1, 2, LEAST, MOST}) {
            Desks.keeps("size " + what, desk, Desks.RANGE, () -> desk.size(2, what));
            Desks.keeps("size " + what + " of none", desk, Desks.RANGE, () -> desk.size(0, what));
        }
        Check.refuses("width of none", Desks.HOLDS_NONE, () -> desk.size(0, 0));
        Check.refuses("height of none", Desks.HOLDS_NONE, () -> desk.size(0, 1));
    }

    private static void word() {
        Check.sentence("8 bytes of THE RESULT from i on, the highest first, zeros behind its end");
        PictureDesk desk = Desks.holding(1, 0xA1B2C3FF);
        desk.write(0, 2, 0);
        Check.answers("word 0", 0x424D3A0000000000L, () -> desk.word(0));
        Check.answers("word 50", 0xC3B2A100L, () -> desk.word(50));
        Check.answers("word 51", 0xC3B2A10000L, () -> desk.word(51));
        Check.answers("word 54, highest bit set", 0xC3B2A10000000000L, () -> desk.word(54));
        Check.answers("word 56", 0xA100000000000000L, () -> desk.word(56));
        Check.answers("the last one", 0, () -> desk.word(57));
        desk.make(0, 100, 100, 0);
        desk.paint(0, 3, -1, -1);
        desk.write(0, 2, 0);
        desk.write(0, 0, 5);
        desk.make(0, 1, 1, -1);
        for (int times = 0; times < 3; times++) {
            desk.write(0, 2, 1);
            Check.answers("behind a shorter result", 0x0100000000000000L, () -> desk.word(61));
            Check.answers("behind a shorter result", 0x0100000100000000L, () -> desk.word(58));
        }
    }

    private static void wordBeyond() {
        Check.sentence("i is none of its bytes: IndexOutOfBoundsException");
        PictureDesk desk = new PictureDesk();
        Check.refuses("the first of none", Desks.TOO_LARGE, () -> desk.word(0));
        desk.make(0, 1, 1, 0);
        desk.write(0, 2, 0);
        for (int i : new int[] {-1, -8, 58, 59, 66, 65536, LEAST, MOST}) {
            Desks.keeps("word " + i, desk, Desks.TOO_LARGE, () -> desk.word(i));
        }
        desk.make(0, 1, 16370, -1);
        desk.write(0, 2, 0);
        Check.answers("the last but one of a long result", 0xFF00000000000000L, () -> desk.word(65532));
        Check.answers("the last of a long result", 0, () -> desk.word(65533));
        Desks.keeps("behind a long result", desk, Desks.TOO_LARGE, () -> desk.word(65534));
    }

    private static void count() {
        Check.sentence("0, 1 bytes of the TAPE, of THE RESULT; 2 SLOTS that hold one.");
        PictureDesk desk = new PictureDesk();
        for (int s = 3; s >= 0; s--) {
            desk.make(s, 1, 1, 0);
            Check.due("slots that hold one", desk.count(2), 4 - s);
        }
        desk.make(3, 2, 2, 0);
        Check.due("slots, one of them made again", desk.count(2), 4);
        desk.feed(0, 0, 0, 0, 0);
        Check.due("the tape", desk.count(0), 20);
        Check.due("the result", desk.count(1), 0);
        desk.write(1, 2, 0);
        Check.due("the result behind a write", desk.count(1), 58);
        Check.due("the tape behind a write", desk.count(0), 20);
        desk.again();
        Check.due("the tape behind again", desk.count(0), 58);
        desk.read(0);
        Check.due("the tape behind read", desk.count(0), 0);
        Check.due("the result behind read", desk.count(1), 58);
    }

    private static void countRange() {
        Check.sentence("what 0 .. 2.");
        PictureDesk desk = new PictureDesk();
        for (int what : new int[] {-1, 3, LEAST, MOST}) {
            Desks.keeps("count " + what, desk, Desks.RANGE, () -> desk.count(what));
        }
        for (int w = 0; w <= 2; w++) {
            int what = w;
            Check.answers("count " + w, 0, () -> desk.count(what));
        }
    }
}
