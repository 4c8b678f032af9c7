/** Promises 1 to 5 and 8 to 15: the tape, the slots and what is told of them. */
public final class StateTest {
    private static final Class<IllegalArgumentException> RANGE = IllegalArgumentException.class;
    private static final Class<IllegalStateException> NONE = IllegalStateException.class;
    private static final Class<IndexOutOfBoundsException> BEYOND = IndexOutOfBoundsException.class;

    public static void main(String[] args) {
        newObject();
        feedAndEnd();
        fullTape();
        again();
        patch();
        make();
        setAndGet();
        paint();
        hash();
        size();
        word();
        count();
        orderOfExceptions();
        Check.finish();
    }

    private static void newObject() {
        PictureDesk desk = new PictureDesk();
        Check.due("tape of a new object", desk.count(0), 0);
        Check.due("result of a new object", desk.count(1), 0);
        Check.due("slots of a new object", desk.count(2), 0);
        Check.answers("again of an empty result", 0, desk::again);
        Check.refuses("word of an empty result", BEYOND, () -> desk.word(0));
        for (int s = 0; s < 4; s++) {
            int slot = s;
            Check.refuses("hash of slot " + s, NONE, () -> desk.hash(slot));
        }
    }

    /** A BMP of one red, green and blue point in the bytes of three feeds. */
    private static void feedAndEnd() {
        PictureDesk desk = new PictureDesk();
        Check.answers("feed", 20, () -> desk.feed(0x424D3A00, 0, 0x00003600, 0x00002800, 0x00000100));
        Check.answers("feed", 40, () -> desk.feed(0x00000100, 0x00000100, 0x18000000, 0, 0));
        Check.answers("feed", 60, () -> desk.feed(0, 0, 0, 0x00001122, 0x3300FFFF));
        Check.refuses("end below 0", RANGE, () -> desk.end(-1));
        Check.refuses("end beyond the tape", RANGE, () -> desk.end(61));
        Check.due("tape behind refused ends", desk.count(0), 60);
        Check.answers("end at the tape's length", 60, () -> desk.end(60));
        Check.answers("end", 58, () -> desk.end(58));
        Check.refuses("end beyond what was kept", RANGE, () -> desk.end(59));
        Check.answers("read of what was fed", 2, () -> desk.read(0));
        Check.due("the point that was fed", desk.get(0, 0, 0), 0x332211FF);
        desk.feed(1, 2, 3, 4, 5);
        Check.answers("end 0", 0, () -> desk.end(0));
        Check.due("tape behind end 0", desk.count(0), 0);
    }

    private static void fullTape() {
        PictureDesk desk = new PictureDesk();
        desk.make(0, 1, 16370, 5);
        Check.answers("the longest BMP but one", 65534, () -> desk.write(0, 2, 0));
        Check.answers("again", 65534, desk::again);
        Check.refuses("feed beyond 65536", BEYOND, () -> desk.feed(0, 0, 0, 0, 0));
        Check.due("tape behind a refused feed", desk.count(0), 65534);
        desk.end(65517);
        Check.refuses("feed to 65537", BEYOND, () -> desk.feed(0, 0, 0, 0, 0));
        desk.end(65516);
        Check.answers("feed to 65536", 65536, () -> desk.feed(0, 0, 0, 0, 0));
        Check.refuses("feed to a full tape", BEYOND, () -> desk.feed(0, 0, 0, 0, 0));
        desk.patch(65532, -1, 4);
        Check.refuses("patch beyond a full tape", RANGE, () -> desk.patch(65533, -1, 4));
    }

    private static void again() {
        PictureDesk desk = new PictureDesk();
        desk.make(0, 2, 2, 0x010203FF);
        int length = desk.write(0, 2, 0);
        desk.feed(1, 2, 3, 4, 5);
        Check.answers("again replaces the tape", length, desk::again);
        Check.due("result behind again", desk.count(1), length);
        desk.patch(54, 0x090807, 3);
        Check.answers("read of the patched tape", 2, () -> desk.read(1));
        Check.due("the patched point", desk.get(1, 0, 1), 0x070809FF);
        desk.again();
        desk.read(1);
        Check.due("the result is not patched", desk.get(1, 0, 1), 0x010203FF);
    }

    private static void patch() {
        PictureDesk desk = new PictureDesk();
        Check.refuses("patch of an empty tape", RANGE, () -> desk.patch(0, 0, 1));
        desk.make(0, 1, 1, 0);
        desk.write(0, 2, 0);
        for (int n = 1; n <= 4; n++) {
            desk.again();
            desk.patch(54, 0xA1B2C3D4, n);
            desk.read(1);
            int[] due = {0x0000D4FF, 0x00D4C3FF, 0xD4C3B2FF, 0xC3B2A1FF};
            Check.due("patch of " + n, desk.get(1, 0, 0), due[n - 1]);
        }
        desk.feed(0, 0, 0, 0, 0);
        Check.refuses("patch of 0 bytes", RANGE, () -> desk.patch(0, 0, 0));
        Check.refuses("patch of 5 bytes", RANGE, () -> desk.patch(0, 0, 5));
        Check.refuses("patch before the tape", RANGE, () -> desk.patch(-1, 0, 1));
        Check.refuses("patch behind the tape", RANGE, () -> desk.patch(20, 0, 1));
        Check.refuses("patch over the end", RANGE, () -> desk.patch(17, 0, 4));
        Check.refuses("patch at the least int", RANGE, () -> desk.patch(Integer.MIN_VALUE, 0, 4));
        Check.refuses("patch at the largest int", RANGE, () -> desk.patch(Integer.MAX_VALUE, 0, 4));
        desk.patch(16, 0, 4);
        desk.patch(19, 0, 1);
        Check.due("tape behind patches", desk.count(0), 20);
    }

    private static void make() {
        PictureDesk desk = new PictureDesk();
        desk.make(3, 16384, 1, -5);
        Check.due("the last point of the widest", desk.get(3, 16383, 0), -5);
        desk.make(3, 1, 16384, 6);
        Check.due("the last point of the highest", desk.get(3, 0, 16383), 6);
        desk.make(3, 128, 128, 7);
        Check.due("the last point of a square", desk.get(3, 127, 127), 7);
        Check.refuses("make 128 129", RANGE, () -> desk.make(3, 128, 129, 0));
        Check.refuses("make 16385 1", RANGE, () -> desk.make(3, 16385, 1, 0));
        Check.refuses("make of a product that wraps to 0", RANGE, () -> desk.make(3, 65536, 65536, 0));
        Check.refuses("make of the largest", RANGE, () -> desk.make(3, Integer.MAX_VALUE, Integer.MAX_VALUE, 0));
        Check.refuses("make 0 1", RANGE, () -> desk.make(3, 0, 1, 0));
        Check.refuses("make 1 0", RANGE, () -> desk.make(3, 1, 0, 0));
        Check.refuses("make -1 -1", RANGE, () -> desk.make(3, -1, -1, 0));
        Check.refuses("make in slot 4", RANGE, () -> desk.make(4, 1, 1, 0));
        Check.refuses("make in slot -1", RANGE, () -> desk.make(-1, 1, 1, 0));
        Check.due("width behind refused makes", desk.size(3, 0), 128);
        desk.make(3, 2, 1, 1);
        Check.due("a smaller image's hash", desk.hash(3), 31 * (31 + 1) + 1);
    }

    private static void setAndGet() {
        PictureDesk desk = new PictureDesk();
        desk.make(0, 3, 2, 4);
        desk.make(1, 3, 2, 4);
        Check.answers("set", 4, () -> desk.set(0, 2, 1, 0xFFEEDDCC));
        Check.answers("set again", 0xFFEEDDCC, () -> desk.set(0, 2, 1, 9));
        Check.answers("get", 9, () -> desk.get(0, 2, 1));
        Check.answers("get beside", 4, () -> desk.get(0, 1, 1));
        Check.answers("get of another slot", 4, () -> desk.get(1, 2, 1));
        int[][] outside = {{3, 0}, {0, 2}, {-1, 0}, {0, -1}, {1, 2}, {Integer.MAX_VALUE, 0}, {0, Integer.MIN_VALUE}};
        for (int[] at : outside) {
            String place = at[0] + " " + at[1];
            Check.refuses("get " + place, RANGE, () -> desk.get(0, at[0], at[1]));
            Check.refuses("set " + place, RANGE, () -> desk.set(0, at[0], at[1], 1));
        }
    }

    private static void paint() {
        PictureDesk desk = new PictureDesk();
        desk.make(0, 3, 2, 0x12345678);
        desk.paint(0, -77, 0x7FFFFFFF, 0x00FF0FF0);
        for (int i = 0; i < 6; i++) {
            int colour = (int) (-77L * i * 2654435769L + 0x7FFFFFFF);
            int due = 0x12345678 & 0xFF00F00F | colour & 0x00FF0FF0;
            Check.due("painted point " + i, desk.get(0, i % 3, i / 3), due);
        }
        int before = desk.hash(0);
        desk.paint(0, 5, 6, 0);
        Check.due("painted with no bits", desk.hash(0), before);
        desk.paint(0, 0, 8, -1);
        Check.due("painted with one colour", desk.get(0, 2, 1), 8);
    }

    private static void hash() {
        PictureDesk desk = new PictureDesk();
        desk.make(2, 2, 2, 0);
        desk.set(2, 1, 0, -3);
        desk.set(2, 0, 1, Integer.MIN_VALUE);
        int due = 31 * (31 * (31 * (31 * 1 + 0) - 3) + Integer.MIN_VALUE) + 0;
        Check.due("hash", desk.hash(2), due);
    }

    private static void size() {
        PictureDesk desk = new PictureDesk();
        desk.make(2, 7, 5, 0);
        Check.due("width", desk.size(2, 0), 7);
        Check.due("height", desk.size(2, 1), 5);
        Check.refuses("size 2", RANGE, () -> desk.size(2, 2));
        Check.refuses("size -1", RANGE, () -> desk.size(2, -1));
    }

    private static void word() {
        PictureDesk desk = new PictureDesk();
        desk.make(0, 1, 1, 0xA1B2C3FF);
        Check.due("length", desk.write(0, 2, 0), 58);
        Check.due("word 0", desk.word(0), 0x424D3A0000000000L);
        Check.due("word 50", desk.word(50), 0xC3B2A100L);
        Check.due("word 53", desk.word(53), 0x00C3B2A100000000L);
        Check.due("word 54", desk.word(54), 0xC3B2A10000000000L);
        Check.due("word 57", desk.word(57), 0);
        Check.refuses("word behind the end", BEYOND, () -> desk.word(58));
        Check.refuses("word -1", BEYOND, () -> desk.word(-1));
        Check.refuses("word of the largest int", BEYOND, () -> desk.word(Integer.MAX_VALUE));
        desk.make(0, 100, 100, 0);
        desk.paint(0, 3, 1, -1);
        desk.write(0, 2, 0);
        desk.make(0, 1, 1, -1);
        desk.write(0, 2, 0);
        Check.due("zeros behind a shorter result", desk.word(56), 0xFF00000000000000L);
    }

    private static void count() {
        PictureDesk desk = new PictureDesk();
        desk.make(1, 1, 1, 0);
        desk.make(3, 1, 1, 0);
        desk.make(3, 2, 2, 0);
        desk.feed(0, 0, 0, 0, 0);
        Check.due("tape", desk.count(0), 20);
        Check.due("slots", desk.count(2), 2);
        Check.due("result", desk.write(1, 2, 0), desk.count(1));
        Check.refuses("count 3", RANGE, () -> desk.count(3));
        Check.refuses("count -1", RANGE, () -> desk.count(-1));
    }

    /** A number out of range comes before a slot that holds none, but for a place in its image. */
    private static void orderOfExceptions() {
        PictureDesk desk = new PictureDesk();
        Check.refuses("size of none", NONE, () -> desk.size(0, 1));
        Check.refuses("size 2 of none", RANGE, () -> desk.size(0, 2));
        Check.refuses("get of none", NONE, () -> desk.get(0, -1, -1));
        Check.refuses("set of none", NONE, () -> desk.set(0, -1, -1, 0));
        Check.refuses("paint of none", NONE, () -> desk.paint(0, 1, 1, 1));
        Check.refuses("write of none", NONE, () -> desk.write(0, 0, 0));
        Check.refuses("write of none, mode 6", RANGE, () -> desk.write(0, 0, 6));
        Check.refuses("write of none, format 3", RANGE, () -> desk.write(0, 3, 0));
        for (int s : new int[] {-1, 4, Integer.MIN_VALUE, Integer.MAX_VALUE}) {
            Check.refuses("get of slot " + s, RANGE, () -> desk.get(s, 0, 0));
            Check.refuses("set of slot " + s, RANGE, () -> desk.set(s, 0, 0, 0));
            Check.refuses("paint of slot " + s, RANGE, () -> desk.paint(s, 0, 0, 0));
            Check.refuses("hash of slot " + s, RANGE, () -> desk.hash(s));
            Check.refuses("size of slot " + s, RANGE, () -> desk.size(s, 0));
            Check.refuses("write of slot " + s, RANGE, () -> desk.write(s, 0, 0));
            Check.refuses("read to slot " + s, RANGE, () -> desk.read(s));
        }
        desk.feed(1, 2, 3, 4, 5);
        Check.refuses("read to slot 4", RANGE, () -> desk.read(4));
        Check.due("tape behind a read to slot 4", desk.count(0), 20);
        Check.refuses("read of no format", Desks.BROKEN, () -> desk.read(0));
        Check.due("tape behind a read of no format", desk.count(0), 0);
        Check.refuses("read of an empty tape", Desks.BROKEN, () -> desk.read(0));
        Check.due("slots behind refused reads", desk.count(2), 0);
    }
}
