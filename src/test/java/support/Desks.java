import java.util.ArrayList;
import java.util.Arrays;
import java.util.List;

/** What the tests do again and again with a desk. */
final class Desks {
    static final Class<IllegalArgumentException> RANGE = IllegalArgumentException.class;
    static final Class<IllegalStateException> HOLDS_NONE = IllegalStateException.class;
    static final Class<UnsupportedOperationException> BROKEN = UnsupportedOperationException.class;
    static final Class<IndexOutOfBoundsException> TOO_LARGE = IndexOutOfBoundsException.class;

    private Desks() {}

    /** Lays the file on the empty tape. */
    static void load(PictureDesk desk, byte[] file) {
        for (int at = 0; at < file.length; at += 20) {
            desk.feed(four(file, at), four(file, at + 4), four(file, at + 8), four(file, at + 12), four(file, at + 16));
        }
        desk.end(file.length);
    }

    private static int four(byte[] file, int at) {
        int value = 0;
        for (int k = 0; k < 4; k++) {
            value = value << 8 | (at + k < file.length ? file[at + k] & 255 : 0);
        }
        return value;
    }

    static byte[] result(PictureDesk desk) {
        byte[] bytes = new byte[desk.count(1)];
        for (int at = 0; at < bytes.length; at += 8) {
            long word = desk.word(at);
            for (int k = 0; k < 8 && at + k < bytes.length; k++) {
                bytes[at + k] = (byte) (word >> 56 - 8 * k);
            }
        }
        return bytes;
    }

    /** A desk that has read a file of each format, and one that is broken, so that nothing in it is as at first. */
    private static PictureDesk used() {
        PictureDesk desk = new PictureDesk();
        byte[] png = Pngs.file(Pngs.header(3, 3, 2, 3, 1), Pngs.part("PLTE", bytes(9, 8, 7, 6, 5, 4)),
                Pngs.part("tRNS", (byte) 3), Pngs.data(Pngs.zlib(0, 0, 1, 64, 2, 16, 3, 64, 4, 0, 0, 84)));
        byte[] gif = Gifs.file(2, 2, Gifs.extension(249, 4, 1, 0, 0, 1, 0), Gifs.image(2, 1, 2, Gifs.codes(2, 4, 1, 2, 5)),
                Gifs.extension(249, 4, 1, 0, 0, 1, 0));
        byte[] bmp = Bmps.file(2, -1, 8, 0, 0, new byte[1024], bytes(255, 254, 0, 0));
        for (byte[] file : new byte[][] {png, gif, bmp}) {
            load(desk, file);
            desk.read(0);
        }
        load(desk, Arrays.copyOf(png, png.length - 1));
        Check.refuses("a file that is cut off", BROKEN, () -> desk.read(0));
        return desk;
    }

    /** The file is read as format, and its points, row by row, are these: by a new desk and by one that was used. */
    static void reads(String what, byte[] file, int format, int width, int... points) {
        PictureDesk desk = new PictureDesk();
        readsOn(desk, what, file, format, width, points);
        readsOn(desk, what + " again", file, format, width, points);
        readsOn(used(), what + " on a used desk", file, format, width, points);
    }

    private static void readsOn(PictureDesk desk, String what, byte[] file, int format, int width, int... points) {
        int held = desk.count(2);
        load(desk, file);
        Check.answers(what + ": read", format, () -> desk.read(held));
        if (desk.count(2) == held) {
            return;
        }
        Check.due(what + ": tape behind read", desk.count(0), 0);
        Check.due(what + ": width", desk.size(held, 0), width);
        Check.due(what + ": height", desk.size(held, 1), points.length / width);
        int h = 1;
        for (int i = 0; i < points.length; i++) {
            h = 31 * h + points[i];
        }
        if (desk.hash(held) == h) {
            Check.due(what + ": hash", h, h);
            return;
        }
        for (int i = 0; i < points.length; i++) {
            Check.due(what + ": point " + i, desk.get(held, i % width, i / width), points[i]);
        }
    }

    /** The file is refused with this exception, by a new desk and by one that was used; slots keep what they hold. */
    static void refuses(String what, Class<? extends RuntimeException> due, byte[] file) {
        refusesOn(new PictureDesk(), what, due, file);
        refusesOn(used(), what + " on a used desk", due, file);
    }

    private static void refusesOn(PictureDesk desk, String what, Class<? extends RuntimeException> due, byte[] file) {
        desk.make(2, 3, 2, 77);
        load(desk, file);
        Check.refuses(what, due, () -> desk.read(2));
        Check.due(what + ": tape behind a refused read", desk.count(0), 0);
        Check.due(what + ": slot behind a refused read", desk.get(2, 2, 1), 77);
        Check.due(what + ": width behind a refused read", desk.size(2, 0), 3);
    }

    /** A new desk whose slot 0 holds these points. */
    static PictureDesk holding(int width, int... points) {
        PictureDesk desk = new PictureDesk();
        desk.make(0, width, points.length / width, 0);
        for (int i = 0; i < points.length; i++) {
            desk.set(0, i % width, i / width, points[i]);
        }
        return desk;
    }

    /** Slot 0 is written as just these bytes, and they can be read again. */
    static void writes(String what, PictureDesk desk, int format, int mode, byte[] due) {
        String name = what + ", format " + format + ", mode " + mode;
        Check.answers(name + ": write", due.length, () -> desk.write(0, format, mode));
        byte[] got = result(desk);
        int same = 0;
        while (same < got.length && same < due.length && got[same] == due[same]) {
            same++;
        }
        Check.due(name + ": bytes that are as due", same, due.length);
        Check.answers(name + ": again", due.length, desk::again);
        Check.answers(name + ": read", format, () -> desk.read(3));
    }

    /** All that a desk tells without being changed. */
    static String state(PictureDesk desk) {
        StringBuilder told = new StringBuilder();
        for (int what = 0; what < 3; what++) {
            told.append(desk.count(what)).append(' ');
        }
        for (int s = 0; s < 4; s++) {
            told.append(slot(desk, s)).append(' ');
        }
        return told.append(Arrays.hashCode(result(desk))).toString();
    }

    private static String slot(PictureDesk desk, int s) {
        try {
            return desk.size(s, 0) + " x " + desk.size(s, 1) + ": " + desk.hash(s);
        } catch (IllegalStateException e) {
            return "none";
        }
    }

    /** The call throws this, and all that the desk tells stays. */
    static void keeps(String what, PictureDesk desk, Class<? extends RuntimeException> due, Runnable call) {
        String before = state(desk);
        Check.refuses(what, due, call);
        String behind = state(desk);
        if (!behind.equals(before)) {
            System.out.println(what + " left " + behind + " where " + before + " was");
        }
        Check.due(what + ": all is as before", behind.equals(before) ? 1 : 0, 1);
    }

    static byte[] bytes(int... values) {
        byte[] made = new byte[values.length];
        for (int k = 0; k < values.length; k++) {
            made[k] = (byte) values[k];
        }
        return made;
    }

    static byte[] join(byte[]... pieces) {
        int total = 0;
        for (byte[] piece : pieces) {
            total += piece.length;
        }
        byte[] made = new byte[total];
        int at = 0;
        for (byte[] piece : pieces) {
            System.arraycopy(piece, 0, made, at, piece.length);
            at += piece.length;
        }
        return made;
    }

    /** A copy with the bytes from at on set to these. */
    static byte[] with(byte[] file, int at, int... values) {
        byte[] made = file.clone();
        for (int k = 0; k < values.length; k++) {
            made[at + k] = (byte) values[k];
        }
        return made;
    }

    static byte[] little2(int value) {
        return bytes(value, value >> 8);
    }

    static byte[] little4(int value) {
        return bytes(value, value >> 8, value >> 16, value >> 24);
    }

    static byte[] big4(int value) {
        return bytes(value >> 24, value >> 16, value >> 8, value);
    }

    /** Bits, the lowest of each byte first. */
    static final class Bits {
        private final List<Integer> bits = new ArrayList<>();

        /** A number of n bits, the lowest first. */
        Bits number(int value, int n) {
            for (int k = 0; k < n; k++) {
                bits.add(value >> k & 1);
            }
            return this;
        }

        /** A code, written out, in the order of its bits. */
        Bits code(String zerosAndOnes) {
            for (char c : zerosAndOnes.toCharArray()) {
                bits.add(c - '0');
            }
            return this;
        }

        /** With the bit of that place turned. */
        Bits turn(int place) {
            bits.set(place, 1 - bits.get(place));
            return this;
        }

        Bits append(Bits more) {
            bits.addAll(more.bits);
            return this;
        }

        Bits toByte() {
            while (bits.size() % 8 != 0) {
                bits.add(0);
            }
            return this;
        }

        byte[] bytes() {
            byte[] made = new byte[(bits.size() + 7) / 8];
            for (int k = 0; k < bits.size(); k++) {
                made[k / 8] |= (byte) (bits.get(k) << k % 8);
            }
            return made;
        }
    }
}
