import java.util.Arrays;

/** Images in three formats: PNG, GIF and BMP files are read from a tape, and written as a result. */
public final class PictureDesk {
    private static final int MOST_BYTES = 65536;
    private static final int MOST_POINTS = 16384;
    private static final int SLOTS = 4;
    private static final int BYTES_A_FEED = 20;
    private static final int PNG = 0;
    private static final int GIF = 1;
    private static final int BMP = 2;
    /** 2654435769 as an int: paint's factor, and one that scatters well. */
    private static final int GOLDEN = 0x9E3779B9;
    private static final int ADLER_MODULUS = 65521;
    /** The effect of the lowest four bits on the rest, for the polynomial 3988292384. */
    private static final int[] CRC_STEPS = {
        0x00000000, 0x1DB71064, 0x3B6E20C8, 0x26D930AC, 0x76DC4190, 0x6B6B51F4, 0x4DB26158, 0x5005713C,
        0xEDB88320, 0xF00F9344, 0xD6D6A3E8, 0xCB61B38C, 0x9B64C2B0, 0x86D3D2D4, 0xA00AE278, 0xBDBDF21C
    };

    private final byte[] tape = new byte[MOST_BYTES];
    private int tapeLength = 0;
    private Sink result = new Sink(MOST_BYTES);
    private Sink draft = new Sink(MOST_BYTES);
    private final Picture[] slots = new Picture[SLOTS];
    private Picture spare = new Picture();
    private final Source source = new Source(tape);
    private final PngReader pngReader;
    private final PngWriter pngWriter;
    private final GifReader gifReader;
    private final GifWriter gifWriter;
    private final BmpFiles bmpFiles;

    public PictureDesk() {
        for (int s = 0; s < SLOTS; s++) {
            slots[s] = new Picture();
        }
        Source packed = new Source(tape);
        byte[] rows = new byte[PngReader.MOST_ROW_BYTES];
        ColourTable colours = new ColourTable();
        pngReader = new PngReader(source, packed, rows);
        pngWriter = new PngWriter(rows);
        gifReader = new GifReader(source, packed);
        gifWriter = new GifWriter(colours);
        bmpFiles = new BmpFiles(source, colours);
    }

    public int feed(int a, int b, int c, int d, int e) throws IndexOutOfBoundsException {
        if (tapeLength > MOST_BYTES - BYTES_A_FEED) {
            throw new IndexOutOfBoundsException("the tape is full");
        }
        layOnTape(tapeLength, a, 4);
        layOnTape(tapeLength + 4, b, 4);
        layOnTape(tapeLength + 8, c, 4);
        layOnTape(tapeLength + 12, d, 4);
        layOnTape(tapeLength + 16, e, 4);
        tapeLength += BYTES_A_FEED;
        return tapeLength;
    }

    public int end(int n) throws IllegalArgumentException {
        requireArgument(n >= 0 && n <= tapeLength);
        tapeLength = n;
        return n;
    }

    public int again() {
        tapeLength = result.copyTo(tape);
        return tapeLength;
    }

    public void patch(int i, int v, int n) throws IllegalArgumentException {
        requireArgument(n >= 1 && n <= 4);
        requireArgument(i >= 0 && i <= tapeLength - n);
        layOnTape(i, v, n);
    }

    public int read(int s)
            throws IllegalArgumentException, UnsupportedOperationException, IndexOutOfBoundsException {
        requireSlot(s);
        source.open(0, tapeLength);
        // Emptied before the file is looked at, as it stays empty whatever is thrown then.
        tapeLength = 0;
        int format = formatOf(source.first());
        if (format == PNG) {
            pngReader.decode(spare);
        } else if (format == GIF) {
            gifReader.decode(spare);
        } else {
            bmpFiles.decode(spare);
        }
        Picture old = slots[s];
        slots[s] = spare;
        spare = old;
        return format;
    }

    public int write(int s, int format, int mode)
            throws IllegalArgumentException, IllegalStateException, UnsupportedOperationException,
                    IndexOutOfBoundsException {
        requireSlot(s);
        requireArgument(format >= PNG && format <= BMP);
        requireArgument(mode >= 0 && mode <= (format == PNG ? PngWriter.BEST_FILTER : 1));
        Picture image = heldPicture(s);
        draft.restart();
        if (format == PNG) {
            pngWriter.encode(image, mode, draft);
        } else if (format == GIF) {
            gifWriter.encode(image, mode == 1, draft);
        } else if (mode == 0) {
            bmpFiles.encodePlain(image, draft);
        } else {
            bmpFiles.encodeRuns(image, draft);
        }
        Sink old = result;
        result = draft;
        draft = old;
        return result.filled();
    }

    public void make(int s, int w, int h, int v) throws IllegalArgumentException {
        requireSlot(s);
        requireArgument(w >= 1 && h >= 1);
        requireArgument((long) w * h <= MOST_POINTS);
        Picture image = slots[s];
        image.resize(w, h);
        Arrays.fill(image.points, 0, image.total(), v);
    }

    public int set(int s, int x, int y, int v) throws IllegalArgumentException, IllegalStateException {
        requireSlot(s);
        Picture image = heldPicture(s);
        requireArgument(image.contains(x, y));
        int place = y * image.width + x;
        int old = image.points[place];
        image.points[place] = v;
        return old;
    }

    public int get(int s, int x, int y) throws IllegalArgumentException, IllegalStateException {
        requireSlot(s);
        Picture image = heldPicture(s);
        requireArgument(image.contains(x, y));
        return image.points[y * image.width + x];
    }

    public void paint(int s, int x, int y, int mask) throws IllegalArgumentException, IllegalStateException {
        requireSlot(s);
        Picture image = heldPicture(s);
        int total = image.total();
        for (int i = 0; i < total; i++) {
            int colour = x * i * GOLDEN + y;
            image.points[i] = image.points[i] & ~mask | colour & mask;
        }
    }

    public int hash(int s) throws IllegalArgumentException, IllegalStateException {
        requireSlot(s);
        Picture image = heldPicture(s);
        int total = image.total();
        int h = 1;
        for (int i = 0; i < total; i++) {
            h = 31 * h + image.points[i];
        }
        return h;
    }

    public int size(int s, int what) throws IllegalArgumentException, IllegalStateException {
        requireSlot(s);
        requireArgument(what == 0 || what == 1);
        Picture image = heldPicture(s);
        return what == 0 ? image.width : image.height;
    }

    public long word(int i) throws IndexOutOfBoundsException {
        if (i < 0 || i >= result.filled()) {
            throw new IndexOutOfBoundsException("no byte of the result");
        }
        long word = 0;
        for (int k = 0; k < 8; k++) {
            word = word << 8 | result.byteOrZero(i + k);
        }
        return word;
    }

    public int count(int what) throws IllegalArgumentException {
        requireArgument(what >= 0 && what <= 2);
        if (what == 0) {
            return tapeLength;
        }
        if (what == 1) {
            return result.filled();
        }
        int held = 0;
        for (int s = 0; s < SLOTS; s++) {
            if (slots[s].isHeld()) {
                held++;
            }
        }
        return held;
    }

    private static void requireArgument(boolean inRange) {
        if (!inRange) {
            throw new IllegalArgumentException("a number is out of range");
        }
    }

    private static void requireSlot(int s) {
        requireArgument(s >= 0 && s < SLOTS);
    }

    private Picture heldPicture(int s) {
        if (!slots[s].isHeld()) {
            throw new IllegalStateException("the slot holds no image");
        }
        return slots[s];
    }

    private void layOnTape(int at, int value, int n) {
        for (int k = 0; k < n; k++) {
            tape[at + k] = (byte) (value >> 8 * (n - 1 - k));
        }
    }

    private static int formatOf(int firstByte) {
        need(firstByte == 137 || firstByte == 71 || firstByte == 66);
        return firstByte == 137 ? PNG : firstByte == 71 ? GIF : BMP;
    }

    /** Whatever a file must keep to goes through here: what does not is BROKEN. */
    private static void need(boolean asTold) {
        if (!asTold) {
            throw new UnsupportedOperationException("the file is broken");
        }
    }

    private static int crcOf(byte[] bytes, int from, int to) {
        int stop = Math.min(to, bytes.length);
        int crc = -1;
        for (int i = Math.max(from, 0); i < stop; i++) {
            crc ^= bytes[i] & 255;
            crc = crc >>> 4 ^ CRC_STEPS[crc & 15];
            crc = crc >>> 4 ^ CRC_STEPS[crc & 15];
        }
        return ~crc;
    }

    private static int adlerOf(byte[] bytes, int n) {
        int stop = Math.min(n, bytes.length);
        int a = 1;
        int b = 0;
        for (int i = 0; i < stop; i++) {
            a = (a + (bytes[i] & 255)) % ADLER_MODULUS;
            b = (b + a) % ADLER_MODULUS;
        }
        return b << 16 | a;
    }

    /** An image, or none while its width is 0; its points are told row by row. */
    private static final class Picture {
        final int[] points = new int[MOST_POINTS];
        int width = 0;
        int height = 0;

        boolean isHeld() {
            return width > 0;
        }

        int total() {
            return width * height;
        }

        boolean contains(int x, int y) {
            return x >= 0 && x < width && y >= 0 && y < height;
        }

        /** Both are at least 1; as longs, so that a file's largest numbers do not wrap. */
        void resize(long newWidth, long newHeight) {
            if (newWidth * newHeight > MOST_POINTS) {
                throw new IndexOutOfBoundsException("too many points");
            }
            width = (int) newWidth;
            height = (int) newHeight;
        }
    }

    /** A file's bytes, or a part of them, taken one behind the other; asking beyond the end finds it BROKEN. */
    private static final class Source {
        private final byte[] bytes;
        private int at = 0;
        private int stop = 0;
        private int bitStore = 0;
        private int bitsHeld = 0;
        private int gatheredFrom = 0;
        private int gatheredTo = 0;

        Source(byte[] bytes) {
            this.bytes = bytes;
        }

        void open(int from, int to) {
            at = Math.max(from, 0);
            stop = Math.min(to, bytes.length);
            dropBits();
        }

        int place() {
            return at;
        }

        int left() {
            return stop - at;
        }

        /** The byte that comes next, without taking it; -1 if there is none. */
        int first() {
            return at < stop ? bytes[at] & 255 : -1;
        }

        int next() {
            if (at >= stop) {
                throw new UnsupportedOperationException("the file ends too early");
            }
            int value = bytes[at] & 255;
            at++;
            return value;
        }

        void skip(int n) {
            need(n >= 0 && n <= left());
            at += n;
        }

        int big2() {
            int high = next();
            return high << 8 | next();
        }

        int big4() {
            int high = big2();
            return high << 16 | big2();
        }

        int little2() {
            int low = next();
            return low | next() << 8;
        }

        int little4() {
            int low = little2();
            return low | little2() << 16;
        }

        /** A number of n bits, at most 16, the lowest first. */
        int bits(int n) {
            while (bitsHeld < n) {
                if (at >= stop) {
                    throw new UnsupportedOperationException("the file ends too early");
                }
                bitStore |= (bytes[at] & 255) << bitsHeld;
                at++;
                bitsHeld += 8;
            }
            int value = bitStore & (1 << n) - 1;
            bitStore >>>= n;
            bitsHeld -= n;
            return value;
        }

        /** Goes on at the next byte's beginning. */
        void dropBits() {
            bitStore = 0;
            bitsHeld = 0;
        }

        int crcAhead(int n) {
            need(n >= 0 && n <= left());
            return crcOf(bytes, at, at + n);
        }

        void beginGathering() {
            gatheredFrom = at;
            gatheredTo = at;
        }

        /** Moves n bytes down behind those gathered before: what is read here is spent, so its room is free. */
        void gather(int n) {
            need(n >= 0 && n <= left());
            System.arraycopy(bytes, at, bytes, gatheredTo, n);
            gatheredTo += n;
            at += n;
        }

        void openGathered(Source other) {
            other.open(gatheredFrom, gatheredTo);
        }
    }

    /** Bytes written one behind the other, refused beyond the room there is. */
    private static final class Sink {
        private final byte[] bytes;
        private int filled = 0;
        private int bitStore = 0;
        private int bitsHeld = 0;

        Sink(int room) {
            bytes = new byte[room];
        }

        void restart() {
            filled = 0;
            bitStore = 0;
            bitsHeld = 0;
        }

        int filled() {
            return filled;
        }

        int byteOrZero(int i) {
            return i >= 0 && i < filled ? bytes[i] & 255 : 0;
        }

        int copyTo(byte[] target) {
            int n = Math.min(filled, target.length);
            System.arraycopy(bytes, 0, target, 0, n);
            return n;
        }

        void put(int value) {
            if (filled >= bytes.length) {
                throw new IndexOutOfBoundsException("the result would be too long");
            }
            bytes[filled] = (byte) value;
            filled++;
        }

        void putZeros(int n) {
            for (int k = 0; k < n; k++) {
                put(0);
            }
        }

        void putText(String text) {
            for (int k = 0; k < text.length(); k++) {
                put(text.charAt(k));
            }
        }

        void putBig4(int value) {
            put(value >> 24);
            put(value >> 16);
            put(value >> 8);
            put(value);
        }

        void putLittle2(int value) {
            put(value);
            put(value >> 8);
        }

        void putLittle4(int value) {
            putLittle2(value);
            putLittle2(value >> 16);
        }

        /** The lowest n bits of value, at most 16, the lowest first. */
        void putBits(int value, int n) {
            bitStore |= (value & (1 << n) - 1) << bitsHeld;
            bitsHeld += n;
            while (bitsHeld >= 8) {
                put(bitStore);
                bitStore >>>= 8;
                bitsHeld -= 8;
            }
        }

        void closeBits() {
            if (bitsHeld > 0) {
                put(bitStore);
            }
            bitStore = 0;
            bitsHeld = 0;
        }

        /** Sets four bytes that were written before what they tell was known. */
        void mendBig4(int from, int value) {
            for (int k = 0; k < 4; k++) {
                mendByte(from + k, value >> 24 - 8 * k);
            }
        }

        void mendLittle4(int from, int value) {
            for (int k = 0; k < 4; k++) {
                mendByte(from + k, value >> 8 * k);
            }
        }

        private void mendByte(int at, int value) {
            if (at >= 0 && at < filled) {
                bytes[at] = (byte) value;
            }
        }

        int crcFrom(int from) {
            return crcOf(bytes, from, filled);
        }
    }

    /** A set of CODES, told by their lengths. */
    private static final class Codes {
        private static final int LONGEST = 15;

        private final int[] counts = new int[LONGEST + 1];
        private final int[] places = new int[LONGEST + 1];
        private final int[] meanings;
        private int used = 0;
        private int unusedWords = 0;

        Codes(int most) {
            meanings = new int[most];
        }

        /** lengths[from] and on are those of the meanings 0 .. n - 1; each is 0 .. 15. */
        void lay(int[] lengths, int from, int n) {
            Arrays.fill(counts, 0);
            for (int m = 0; m < n; m++) {
                counts[lengths[from + m] & LONGEST]++;
            }
            used = n - counts[0];
            counts[0] = 0;
            unusedWords = 1;
            int place = 0;
            for (int length = 1; length <= LONGEST; length++) {
                unusedWords = 2 * unusedWords - counts[length];
                // More CODES than words: nothing longer could mend that.
                need(unusedWords >= 0);
                places[length] = place;
                place += counts[length];
            }
            for (int m = 0; m < n; m++) {
                int length = lengths[from + m] & LONGEST;
                if (length > 0) {
                    meanings[places[length]] = m;
                    places[length]++;
                }
            }
        }

        boolean usesAllWords() {
            return unusedWords == 0;
        }

        boolean servesDistances() {
            return unusedWords == 0 || used == 0 || used == 1 && counts[1] == 1;
        }

        /** Takes one CODE, its highest bit first, and answers what it means. */
        int take(Source in) {
            int code = 0;
            int firstCode = 0;
            int place = 0;
            for (int length = 1; length <= LONGEST; length++) {
                code = code << 1 | in.bits(1);
                int beyond = code - firstCode;
                if (beyond < counts[length]) {
                    return meanings[place + beyond];
                }
                place += counts[length];
                firstCode = firstCode + counts[length] << 1;
            }
            throw new UnsupportedOperationException("no such code");
        }
    }

    /** ZLIB with DEFLATE. */
    private static final class Inflater {
        static final int BLOCK_END = 256;
        static final int LITERALS = 288;
        static final int FIRST_LENGTH = 257;
        static final int[] LENGTH_BASE = {
            3, 4, 5, 6, 7, 8, 9, 10, 11, 13, 15, 17, 19, 23, 27, 31, 35, 43, 51, 59, 67, 83, 99, 115, 131, 163, 195,
            227, 258
        };
        static final int[] LENGTH_BITS = {
            0, 0, 0, 0, 0, 0, 0, 0, 1, 1, 1, 1, 2, 2, 2, 2, 3, 3, 3, 3, 4, 4, 4, 4, 5, 5, 5, 5, 0
        };
        static final int[] DISTANCE_BASE = {
            1, 2, 3, 4, 5, 7, 9, 13, 17, 25, 33, 49, 65, 97, 129, 193, 257, 385, 513, 769, 1025, 1537, 2049, 3073,
            4097, 6145, 8193, 12289, 16385, 24577
        };
        static final int[] DISTANCE_BITS = {
            0, 0, 0, 0, 1, 1, 2, 2, 3, 3, 4, 4, 5, 5, 6, 6, 7, 7, 8, 8, 9, 9, 10, 10, 11, 11, 12, 12, 13, 13
        };
        private static final int[] LENGTHS_ORDER = {
            16, 17, 18, 0, 8, 7, 9, 6, 10, 5, 11, 4, 12, 3, 13, 2, 14, 1, 15
        };
        private static final int MOST_LITERALS = 286;
        private static final int MOST_DISTANCES = 30;
        private static final int FIXED_DISTANCES = 32;
        private static final int LENGTH_CODES = 19;
        /** Far above the blocks that 65536 bytes can hold. */
        private static final int MOST_BLOCKS = 1000000;

        private final Source in;
        private final byte[] out;
        private final Codes literals = new Codes(LITERALS);
        private final Codes distances = new Codes(FIXED_DISTANCES);
        private final Codes lengthCodes = new Codes(LENGTH_CODES);
        private final int[] lengths = new int[MOST_LITERALS + MOST_DISTANCES];
        private int made = 0;
        private int due = 0;

        Inflater(Source in, byte[] out) {
            this.in = in;
            this.out = out;
        }

        /** All of in is ZLIB of just bytesDue bytes, which stand at the beginning of out then. */
        void unpack(int bytesDue) {
            need(bytesDue <= out.length);
            made = 0;
            due = bytesDue;
            takeHead();
            boolean isLast = false;
            for (int blocks = 0; !isLast && blocks < MOST_BLOCKS; blocks++) {
                isLast = in.bits(1) == 1;
                int type = in.bits(2);
                need(type <= 2);
                if (type == 0) {
                    takeStored();
                    continue;
                }
                if (type == 1) {
                    layFixedCodes();
                } else {
                    takeCodes();
                }
                takeCoded();
            }
            in.dropBits();
            need(isLast && made == due);
            need(in.big4() == adlerOf(out, made));
            need(in.left() == 0);
        }

        private void takeHead() {
            int c = in.next();
            int f = in.next();
            need(c % 16 == 8 && c / 16 <= 7);
            need((256 * c + f) % 31 == 0);
            need(f / 32 % 2 == 0);
        }

        private void takeStored() {
            in.dropBits();
            int n = in.little2();
            need(in.little2() == 65535 - n);
            need(n <= due - made);
            for (int k = 0; k < n; k++) {
                out[made] = (byte) in.next();
                made++;
            }
        }

        private void layFixedCodes() {
            Arrays.fill(lengths, 0, 144, 8);
            Arrays.fill(lengths, 144, 256, 9);
            Arrays.fill(lengths, 256, 280, 7);
            Arrays.fill(lengths, 280, LITERALS, 8);
            literals.lay(lengths, 0, LITERALS);
            Arrays.fill(lengths, 0, FIXED_DISTANCES, 5);
            distances.lay(lengths, 0, FIXED_DISTANCES);
        }

        private void takeCodes() {
            int literalCount = in.bits(5) + 257;
            int distanceCount = in.bits(5) + 1;
            int lengthCount = in.bits(4) + 4;
            need(literalCount <= MOST_LITERALS && distanceCount <= MOST_DISTANCES);
            Arrays.fill(lengths, 0, LENGTH_CODES, 0);
            for (int k = 0; k < lengthCount && k < LENGTH_CODES; k++) {
                lengths[LENGTHS_ORDER[k]] = in.bits(3);
            }
            lengthCodes.lay(lengths, 0, LENGTH_CODES);
            need(lengthCodes.usesAllWords());
            takeLengths(literalCount + distanceCount);
            need(lengths[BLOCK_END] > 0);
            literals.lay(lengths, 0, literalCount);
            need(literals.usesAllWords());
            distances.lay(lengths, literalCount, distanceCount);
            need(distances.servesDistances());
        }

        private void takeLengths(int total) {
            int at = 0;
            while (at < total) {
                int told = lengthCodes.take(in);
                int value = told;
                int times = 1;
                if (told == 16) {
                    need(at > 0);
                    value = lengths[at - 1];
                    times = 3 + in.bits(2);
                } else if (told > 16) {
                    value = 0;
                    times = told == 17 ? 3 + in.bits(3) : 11 + in.bits(7);
                }
                need(times <= total - at);
                Arrays.fill(lengths, at, at + times, value);
                at += times;
            }
        }

        private void takeCoded() {
            // Each round but the last makes a byte or more, and no more than are due.
            for (int rounds = 0; rounds <= due; rounds++) {
                int told = literals.take(in);
                if (told == BLOCK_END) {
                    return;
                }
                if (told < BLOCK_END) {
                    need(made < due);
                    out[made] = (byte) told;
                    made++;
                } else {
                    takeCopy(told - FIRST_LENGTH);
                }
            }
            throw new UnsupportedOperationException("more bytes than are due");
        }

        private void takeCopy(int lengthCode) {
            need(lengthCode >= 0 && lengthCode < LENGTH_BASE.length);
            int length = LENGTH_BASE[lengthCode] + in.bits(LENGTH_BITS[lengthCode]);
            int distanceCode = distances.take(in);
            need(distanceCode < DISTANCE_BASE.length);
            int distance = DISTANCE_BASE[distanceCode] + in.bits(DISTANCE_BITS[distanceCode]);
            need(distance <= made && length <= due - made);
            for (int k = 0; k < length; k++) {
                out[made] = out[made - distance];
                made++;
            }
        }
    }

    private static final class PngReader {
        /** 16384 rows of one point of four numbers of 16 bits, each behind its byte. */
        static final int MOST_ROW_BYTES = 9 * MOST_POINTS;
        static final int[] SIGNATURE = {137, 80, 78, 71, 13, 10, 26, 10};
        static final int IHDR = 0x49484452;
        static final int IDAT = 0x49444154;
        static final int IEND = 0x49454E44;
        static final int HEADER_BYTES = 13;
        private static final int PLTE = 0x504C5445;
        private static final int TRNS = 0x74524E53;
        private static final int GREY = 0;
        private static final int RGB = 2;
        private static final int PALETTE = 3;
        private static final int GREY_ALPHA = 4;
        private static final int RGBA = 6;
        private static final int BEFORE_DATA = 0;
        private static final int IN_DATA = 1;
        private static final int BEHIND_DATA = 2;
        /** Seven passes, and one of the whole image; steps are told by the powers of two that they are. */
        private static final int[] PASS_X = {0, 4, 0, 2, 0, 1, 0, 0};
        private static final int[] PASS_Y = {0, 0, 4, 0, 2, 0, 1, 0};
        private static final int[] PASS_X_SHIFT = {3, 3, 2, 2, 1, 1, 0, 0};
        private static final int[] PASS_Y_SHIFT = {3, 3, 3, 2, 2, 1, 1, 0};
        private static final int WHOLE_IMAGE = 7;

        private final Source in;
        private final Source packed;
        private final byte[] rows;
        private final Inflater inflater;
        private final int[] palette = new int[256];
        private final int[] key = new int[3];
        private int colours = 0;
        private boolean hasTransparency = false;
        private int depth = 0;
        private int kind = 0;
        private boolean isInterlaced = false;
        private int stage = BEFORE_DATA;
        private int partLength = 0;
        private int partCrc = 0;

        PngReader(Source in, Source packed, byte[] rows) {
            this.in = in;
            this.packed = packed;
            this.rows = rows;
            inflater = new Inflater(packed, rows);
        }

        void decode(Picture image) {
            colours = 0;
            hasTransparency = false;
            stage = BEFORE_DATA;
            for (int k = 0; k < SIGNATURE.length; k++) {
                need(in.next() == SIGNATURE[k]);
            }
            takeHeader(image);
            takeParts();
            in.openGathered(packed);
            inflater.unpack(rowBytesDue(image));
            takePasses(image);
        }

        private void takeHeader(Picture image) {
            need(openPart() == IHDR && partLength == HEADER_BYTES);
            int width = in.big4();
            int height = in.big4();
            depth = in.next();
            kind = in.next();
            need(width > 0 && height > 0);
            need(kindHasDepth());
            need(in.big2() == 0);
            int interlace = in.next();
            need(interlace <= 1);
            isInterlaced = interlace == 1;
            closePart();
            image.resize(width, height);
        }

        private boolean kindHasDepth() {
            boolean isSmall = depth == 1 || depth == 2 || depth == 4;
            switch (kind) {
                case GREY:
                    return isSmall || depth == 8 || depth == 16;
                case PALETTE:
                    return isSmall || depth == 8;
                case RGB:
                case GREY_ALPHA:
                case RGBA:
                    return depth == 8 || depth == 16;
                default:
                    return false;
            }
        }

        /** Answers the four letters; what follows is partLength bytes and the CRC. */
        private int openPart() {
            partLength = in.big4();
            need(partLength >= 0 && partLength <= in.left() - 8);
            partCrc = in.crcAhead(partLength + 4);
            return in.big4();
        }

        private void closePart() {
            need(in.big4() == partCrc);
        }

        private void takeParts() {
            boolean isEnded = false;
            for (int parts = 0; !isEnded && parts < MOST_BYTES; parts++) {
                int letters = openPart();
                isEnded = letters == IEND;
                if (isEnded) {
                    need(partLength == 0 && stage != BEFORE_DATA);
                } else if (letters == IDAT) {
                    takeData();
                } else {
                    takeOther(letters);
                }
                closePart();
            }
            need(isEnded && in.left() == 0);
        }

        private void takeData() {
            need(stage != BEHIND_DATA);
            need(kind != PALETTE || colours > 0);
            if (stage == BEFORE_DATA) {
                in.beginGathering();
            }
            stage = IN_DATA;
            in.gather(partLength);
        }

        private void takeOther(int letters) {
            if (stage == IN_DATA) {
                stage = BEHIND_DATA;
            }
            if (letters == PLTE) {
                takePalette();
            } else if (letters == TRNS) {
                takeTransparency();
            } else {
                need(isUncounted(letters));
                in.skip(partLength);
            }
        }

        private static boolean isUncounted(int letters) {
            for (int shift = 0; shift < 24; shift += 8) {
                int letter = letters >> shift & 255;
                if (!isSmallLetter(letter) && !isSmallLetter(letter + 32)) {
                    return false;
                }
            }
            return isSmallLetter(letters >> 24 & 255);
        }

        private static boolean isSmallLetter(int letter) {
            return letter >= 'a' && letter <= 'z';
        }

        private void takePalette() {
            need(stage == BEFORE_DATA && colours == 0 && !hasTransparency);
            need(kind != GREY && kind != GREY_ALPHA);
            need(partLength >= 3 && partLength <= 768 && partLength % 3 == 0);
            colours = partLength / 3;
            need(kind != PALETTE || colours <= 1 << depth);
            for (int k = 0; k < colours; k++) {
                int redGreen = in.big2();
                palette[k] = redGreen << 16 | in.next() << 8 | 255;
            }
        }

        private void takeTransparency() {
            need(stage == BEFORE_DATA && !hasTransparency);
            need(kind == PALETTE || kind == GREY || kind == RGB);
            hasTransparency = true;
            if (kind == PALETTE) {
                need(partLength >= 1 && partLength <= colours);
                for (int k = 0; k < partLength; k++) {
                    palette[k] = palette[k] & ~255 | in.next();
                }
                return;
            }
            int numbers = kind == GREY ? 1 : 3;
            need(partLength == 2 * numbers);
            for (int k = 0; k < numbers; k++) {
                key[k] = in.big2();
                need(key[k] < 1 << depth);
            }
        }

        private int bitsAPoint() {
            int numbers = kind == RGBA ? 4 : kind == RGB ? 3 : kind == GREY_ALPHA ? 2 : 1;
            return numbers * depth;
        }

        private int rowBytes(int points) {
            return (points * bitsAPoint() + 7) / 8;
        }

        private static int passWidth(Picture image, int pass) {
            int shift = PASS_X_SHIFT[pass];
            return image.width - PASS_X[pass] + (1 << shift) - 1 >> shift;
        }

        private static int passHeight(Picture image, int pass) {
            int shift = PASS_Y_SHIFT[pass];
            return image.height - PASS_Y[pass] + (1 << shift) - 1 >> shift;
        }

        private int passBytes(Picture image, int pass) {
            int width = passWidth(image, pass);
            return width > 0 ? passHeight(image, pass) * (1 + rowBytes(width)) : 0;
        }

        private int rowBytesDue(Picture image) {
            if (!isInterlaced) {
                return passBytes(image, WHOLE_IMAGE);
            }
            int due = 0;
            for (int pass = 0; pass < WHOLE_IMAGE; pass++) {
                due += passBytes(image, pass);
            }
            return due;
        }

        private void takePasses(Picture image) {
            if (!isInterlaced) {
                takePass(image, WHOLE_IMAGE, 0);
                return;
            }
            int at = 0;
            for (int pass = 0; pass < WHOLE_IMAGE; pass++) {
                at = takePass(image, pass, at);
            }
        }

        /** Takes the pass whose rows stand from at on, and answers where the next one's stand. */
        private int takePass(Picture image, int pass, int at) {
            int width = passWidth(image, pass);
            if (width <= 0) {
                return at;
            }
            int height = passHeight(image, pass);
            int n = rowBytes(width);
            int rowAt = at;
            for (int row = 0; row < height; row++) {
                unfilter(rowAt, n, row > 0);
                int y = PASS_Y[pass] + (row << PASS_Y_SHIFT[pass]);
                for (int i = 0; i < width; i++) {
                    int x = PASS_X[pass] + (i << PASS_X_SHIFT[pass]);
                    image.points[y * image.width + x] = pointAt(rowAt + 1, i);
                }
                rowAt += n + 1;
            }
            return rowAt;
        }

        private void unfilter(int rowAt, int n, boolean hasAbove) {
            int filter = rows[rowAt] & 255;
            need(filter <= 4);
            int step = Math.max(1, bitsAPoint() / 8);
            int toAbove = n + 1;
            for (int k = 0; k < n; k++) {
                int at = rowAt + 1 + k;
                int a = k >= step ? rows[at - step] & 255 : 0;
                int b = hasAbove ? rows[at - toAbove] & 255 : 0;
                int c = hasAbove && k >= step ? rows[at - toAbove - step] & 255 : 0;
                rows[at] = (byte) (rows[at] + predicted(filter, a, b, c));
            }
        }

        /** What a filter takes off a byte: from the one before (a), the one above (b), the one before that (c). */
        static int predicted(int filter, int a, int b, int c) {
            switch (filter) {
                case 1:
                    return a;
                case 2:
                    return b;
                case 3:
                    return (a + b) / 2;
                case 4:
                    return nearest(a, b, c);
                default:
                    return 0;
            }
        }

        private static int nearest(int a, int b, int c) {
            int toA = Math.abs(b - c);
            int toB = Math.abs(a - c);
            int toC = Math.abs(a + b - 2 * c);
            if (toA <= toB && toA <= toC) {
                return a;
            }
            return toB <= toC ? b : c;
        }

        private int pointAt(int rowAt, int i) {
            switch (kind) {
                case GREY:
                    return greyPoint(numberAt(rowAt, i));
                case RGB:
                    return rgbPoint(numberAt(rowAt, 3 * i), numberAt(rowAt, 3 * i + 1), numberAt(rowAt, 3 * i + 2));
                case PALETTE:
                    int index = numberAt(rowAt, i);
                    need(index < colours);
                    return palette[index];
                case GREY_ALPHA:
                    int grey = scaled(numberAt(rowAt, 2 * i));
                    return grey * 0x01010100 | scaled(numberAt(rowAt, 2 * i + 1));
                default:
                    return scaled(numberAt(rowAt, 4 * i)) << 24
                            | scaled(numberAt(rowAt, 4 * i + 1)) << 16
                            | scaled(numberAt(rowAt, 4 * i + 2)) << 8
                            | scaled(numberAt(rowAt, 4 * i + 3));
            }
        }

        private int greyPoint(int grey) {
            int alpha = hasTransparency && grey == key[0] ? 0 : 255;
            return scaled(grey) * 0x01010100 | alpha;
        }

        private int rgbPoint(int red, int green, int blue) {
            boolean isKey = hasTransparency && red == key[0] && green == key[1] && blue == key[2];
            return scaled(red) << 24 | scaled(green) << 16 | scaled(blue) << 8 | (isKey ? 0 : 255);
        }

        /** The number of that place in the row, whole: depth bits. */
        private int numberAt(int rowAt, int place) {
            if (depth == 16) {
                int at = rowAt + 2 * place;
                return (rows[at] & 255) << 8 | rows[at + 1] & 255;
            }
            int bit = place * depth;
            int shift = 8 - depth - bit % 8;
            return rows[rowAt + bit / 8] >> shift & (1 << depth) - 1;
        }

        private int scaled(int number) {
            switch (depth) {
                case 1:
                    return number * 255;
                case 2:
                    return number * 85;
                case 4:
                    return number * 17;
                case 16:
                    return number >> 8;
                default:
                    return number;
            }
        }
    }

    private static final class PngWriter {
        static final int BEST_FILTER = 5;
        private static final int LEAST_COPY = 3;
        private static final int MOST_COPY = 258;
        private static final int WINDOW = 4096;
        private static final int CHAINS = 4096;

        private final byte[] rows;
        /** For each sum of three bytes the last place where they began, or -1. */
        private final int[] lastPlaces = new int[CHAINS];
        /** For each place of the window the place before it with the same sum, or -1. */
        private final int[] placesBefore = new int[WINDOW];
        private int total = 0;
        private int copyLength = 0;
        private int copyDistance = 0;

        PngWriter(byte[] rows) {
            this.rows = rows;
        }

        void encode(Picture image, int mode, Sink out) {
            for (int k = 0; k < PngReader.SIGNATURE.length; k++) {
                out.put(PngReader.SIGNATURE[k]);
            }
            putHeader(image, out);
            filterRows(image, mode);
            putData(out);
            int at = openPart(PngReader.IEND, out);
            closePart(at, out);
        }

        /** Answers where the part begins; its length is not known yet. */
        private static int openPart(int letters, Sink out) {
            int at = out.filled();
            out.putBig4(0);
            out.putBig4(letters);
            return at;
        }

        private static void closePart(int at, Sink out) {
            out.mendBig4(at, out.filled() - at - 8);
            out.putBig4(out.crcFrom(at + 4));
        }

        private static void putHeader(Picture image, Sink out) {
            int at = openPart(PngReader.IHDR, out);
            out.putBig4(image.width);
            out.putBig4(image.height);
            out.put(8);
            out.put(PngReader.RGBA);
            out.putZeros(3);
            closePart(at, out);
        }

        private void filterRows(Picture image, int mode) {
            int rowBytes = 4 * image.width;
            for (int y = 0; y < image.height; y++) {
                int at = y * (rowBytes + 1);
                int filter = mode == BEST_FILTER ? bestFilter(image, y, at) : mode;
                filterRow(image, y, filter, at);
            }
            total = image.height * (rowBytes + 1);
        }

        private int bestFilter(Picture image, int y, int at) {
            int best = 0;
            int least = filterRow(image, y, 0, at);
            for (int filter = 1; filter < BEST_FILTER; filter++) {
                int sum = filterRow(image, y, filter, at);
                if (sum < least) {
                    least = sum;
                    best = filter;
                }
            }
            return best;
        }

        /** Answers the sum of the filtered bytes, with sign, in size. */
        private int filterRow(Picture image, int y, int filter, int at) {
            int sum = 0;
            rows[at] = (byte) filter;
            for (int x = 0; x < image.width; x++) {
                int place = y * image.width + x;
                int point = image.points[place];
                int before = x > 0 ? image.points[place - 1] : 0;
                int above = y > 0 ? image.points[place - image.width] : 0;
                int beforeAbove = x > 0 && y > 0 ? image.points[place - image.width - 1] : 0;
                for (int k = 0; k < 4; k++) {
                    int shift = 24 - 8 * k;
                    int told = PngReader.predicted(
                            filter, before >> shift & 255, above >> shift & 255, beforeAbove >> shift & 255);
                    byte filtered = (byte) ((point >> shift & 255) - told);
                    rows[at + 1 + 4 * x + k] = filtered;
                    sum += Math.abs(filtered);
                }
            }
            return sum;
        }

        private void putData(Sink out) {
            int at = openPart(PngReader.IDAT, out);
            out.put(120);
            out.put(1);
            out.putBits(1, 1);
            out.putBits(1, 2);
            Arrays.fill(lastPlaces, -1);
            int place = 0;
            while (place < total) {
                findCopy(place);
                int length = 1;
                if (copyLength >= LEAST_COPY) {
                    length = copyLength;
                    putCopy(out);
                } else {
                    putLiteral(rows[place] & 255, out);
                }
                for (int k = 0; k < length; k++) {
                    remember(place + k);
                }
                place += length;
            }
            putLiteral(Inflater.BLOCK_END, out);
            out.closeBits();
            out.putBig4(adlerOf(rows, total));
            closePart(at, out);
        }

        private int chainOf(int place) {
            int sum = (rows[place] & 255) << 16 | (rows[place + 1] & 255) << 8 | rows[place + 2] & 255;
            return sum * GOLDEN >>> 20;
        }

        private void remember(int place) {
            if (place > total - LEAST_COPY) {
                return;
            }
            int chain = chainOf(place);
            placesBefore[place & WINDOW - 1] = lastPlaces[chain];
            lastPlaces[chain] = place;
        }

        /** Sets copyLength to the longest there is, 0 if none, and copyDistance to the nearest with that length. */
        private void findCopy(int place) {
            copyLength = 0;
            copyDistance = 0;
            if (place > total - LEAST_COPY) {
                return;
            }
            int most = Math.min(MOST_COPY, total - place);
            int from = lastPlaces[chainOf(place)];
            for (int tries = 0; tries < WINDOW && copyLength < most; tries++) {
                if (from < 0 || from < place - WINDOW) {
                    return;
                }
                int length = commonLength(from, place, most);
                if (length >= LEAST_COPY && length > copyLength) {
                    copyLength = length;
                    copyDistance = place - from;
                }
                from = placesBefore[from & WINDOW - 1];
            }
        }

        private int commonLength(int from, int place, int most) {
            if (rows[from + copyLength] != rows[place + copyLength]) {
                return 0;
            }
            int length = 0;
            while (length < most && rows[from + length] == rows[place + length]) {
                length++;
            }
            return length;
        }

        private static void putLiteral(int meaning, Sink out) {
            if (meaning < 144) {
                out.putBits(turned(48 + meaning, 8), 8);
            } else if (meaning < 256) {
                out.putBits(turned(400 + meaning - 144, 9), 9);
            } else if (meaning < 280) {
                out.putBits(turned(meaning - 256, 7), 7);
            } else {
                out.putBits(turned(192 + meaning - 280, 8), 8);
            }
        }

        private void putCopy(Sink out) {
            int lengthCode = codeFor(copyLength, Inflater.LENGTH_BASE);
            putLiteral(Inflater.FIRST_LENGTH + lengthCode, out);
            out.putBits(copyLength - Inflater.LENGTH_BASE[lengthCode], Inflater.LENGTH_BITS[lengthCode]);
            int distanceCode = codeFor(copyDistance, Inflater.DISTANCE_BASE);
            out.putBits(turned(distanceCode, 5), 5);
            out.putBits(copyDistance - Inflater.DISTANCE_BASE[distanceCode], Inflater.DISTANCE_BITS[distanceCode]);
        }

        /** The last one whose base is not above the number. */
        private static int codeFor(int number, int[] bases) {
            int code = bases.length - 1;
            while (code > 0 && bases[code] > number) {
                code--;
            }
            return code;
        }

        /** CODES have their highest bit first, but bits are put with the lowest first. */
        private static int turned(int code, int n) {
            int turned = 0;
            for (int k = 0; k < n; k++) {
                turned = turned << 1 | code >> k & 1;
            }
            return turned;
        }
    }

    /** What LZW has in common in reading and writing, and GIF files read. */
    private static final class GifReader {
        static final int MOST_CODES = 4096;
        static final int MOST_CODE_BITS = 12;
        static final int EXTENSION = 33;
        static final int IMAGE = 44;
        static final int FILE_END = 59;
        static final int TRANSPARENCY = 249;
        static final int HAS_TABLE = 128;
        static final int INTERLACED = 64;
        private static final int NONE = -1;
        /** Far above the codes that 65536 bytes can hold. */
        private static final int MOST_ROUNDS = 1000000;

        private final Source in;
        private final Source packed;
        private final int[] table = new int[256];
        /** A row is a piece of what was unpacked before: where it starts there, and how long it is. */
        private final int[] rowStarts = new int[MOST_CODES];
        private final int[] rowLengths = new int[MOST_CODES];
        private final int[] indices = new int[MOST_POINTS];
        private final int[] order = new int[MOST_POINTS];
        private int colours = 0;
        private int transparent = NONE;
        private int made = 0;

        GifReader(Source in, Source packed) {
            this.in = in;
            this.packed = packed;
        }

        void decode(Picture image) {
            colours = 0;
            transparent = NONE;
            takeHead(image);
            Arrays.fill(image.points, 0, image.total(), 0);
            int images = 0;
            boolean isEnded = false;
            for (int blocks = 0; !isEnded && blocks < MOST_BYTES; blocks++) {
                int mark = in.next();
                if (mark == IMAGE) {
                    takeImage(image, images == 0);
                    images++;
                } else if (mark == EXTENSION) {
                    takeExtension();
                } else {
                    need(mark == FILE_END);
                    isEnded = true;
                }
            }
            need(isEnded && images > 0 && in.left() == 0);
        }

        private void takeHead(Picture image) {
            need(in.next() == 'G' && in.next() == 'I' && in.next() == 'F' && in.next() == '8');
            int year = in.next();
            need((year == '7' || year == '9') && in.next() == 'a');
            int width = in.little2();
            int height = in.little2();
            need(width > 0 && height > 0);
            image.resize(width, height);
            int flags = in.next();
            in.skip(2);
            takeTable(flags);
        }

        private void takeTable(int flags) {
            if ((flags & HAS_TABLE) == 0) {
                return;
            }
            colours = 2 << flags % 8;
            for (int k = 0; k < colours; k++) {
                int redGreen = in.big2();
                table[k] = redGreen << 16 | in.next() << 8 | 255;
            }
        }

        private void takeExtension() {
            if (in.next() != TRANSPARENCY) {
                takeSubs();
                return;
            }
            need(in.next() == 4);
            int flags = in.next();
            in.skip(2);
            int index = in.next();
            need(in.next() == 0);
            transparent = flags % 2 == 1 ? index : NONE;
        }

        private void takeSubs() {
            in.beginGathering();
            int length = in.next();
            for (int subs = 0; length > 0 && subs < MOST_BYTES; subs++) {
                in.gather(length);
                length = in.next();
            }
        }

        private void takeImage(Picture image, boolean isFirst) {
            int left = in.little2();
            int top = in.little2();
            int width = in.little2();
            int height = in.little2();
            need(width > 0 && height > 0);
            need(left + width <= image.width && top + height <= image.height);
            int flags = in.next();
            takeTable(flags);
            int m = in.next();
            need(m >= 2 && m <= 8);
            takeSubs();
            if (isFirst) {
                need(colours > 0);
                in.openGathered(packed);
                unpack(m, width * height);
                layRowOrder(order, height, (flags & INTERLACED) != 0);
                for (int row = 0; row < height; row++) {
                    layRow(image.points, (top + order[row]) * image.width + left, row * width, width);
                }
            }
            transparent = NONE;
        }

        private void layRow(int[] points, int to, int from, int n) {
            for (int k = 0; k < n; k++) {
                int index = indices[from + k];
                need(index < colours);
                points[to + k] = index == transparent ? table[index] & ~255 : table[index];
            }
        }

        /** order[k] is the row that is stored as the k-th. */
        static void layRowOrder(int[] order, int height, boolean isInterlaced) {
            int k = 0;
            if (!isInterlaced) {
                for (int row = 0; row < height; row++) {
                    order[row] = row;
                }
                return;
            }
            for (int row = 0; row < height; row += 8) {
                order[k] = row;
                k++;
            }
            for (int step = 8; step >= 2; step /= 2) {
                for (int row = step / 2; row < height; row += step) {
                    order[k] = row;
                    k++;
                }
            }
        }

        /** All that was gathered is LZW of just total indices. */
        private void unpack(int m, int total) {
            int beginning = 1 << m;
            int bits = m + 1;
            int nextRow = beginning + 2;
            int lengthBefore = 0;
            made = 0;
            for (int rounds = 0; rounds < MOST_ROUNDS; rounds++) {
                int code = packed.bits(bits);
                if (code == beginning + 1) {
                    need(made == total);
                    return;
                }
                if (code == beginning) {
                    bits = m + 1;
                    nextRow = beginning + 2;
                    lengthBefore = 0;
                    continue;
                }
                if (lengthBefore > 0 && nextRow < MOST_CODES) {
                    rowStarts[nextRow] = made - lengthBefore;
                    rowLengths[nextRow] = lengthBefore + 1;
                    nextRow++;
                }
                need(code < nextRow);
                lengthBefore = code < beginning ? unpackIndex(code, total) : unpackRow(code, total);
                if (nextRow == 1 << bits && bits < MOST_CODE_BITS) {
                    bits++;
                }
            }
            throw new UnsupportedOperationException("no end of the codes");
        }

        private int unpackIndex(int index, int total) {
            need(made < total);
            indices[made] = index;
            made++;
            return 1;
        }

        /** One by one: the last index of a row that is this one itself is the first that is copied here. */
        private int unpackRow(int row, int total) {
            int length = rowLengths[row];
            need(length <= total - made);
            int start = rowStarts[row];
            for (int k = 0; k < length; k++) {
                indices[made] = indices[start + k];
                made++;
            }
            return length;
        }
    }

    private static final class GifWriter {
        private static final int NONE = -1;
        private static final int SUB_BYTES = 255;
        /** Above 16384 codes of 12 bits and the beginnings between them. */
        private static final int MOST_CODE_BYTES = 32768;

        private final ColourTable table;
        private final Sink codes = new Sink(MOST_CODE_BYTES);
        private final int[] order = new int[MOST_POINTS];
        private final int[] indices = new int[MOST_POINTS];
        /** A row's longer ones by one index: the newest of them, and from each the next older one. */
        private final int[] newestLonger = new int[GifReader.MOST_CODES];
        private final int[] olderSibling = new int[GifReader.MOST_CODES];
        private final int[] lastIndex = new int[GifReader.MOST_CODES];
        private int m = 0;
        private int nextRow = 0;
        private int bits = 0;
        private int readersNextRow = 0;
        private boolean isFirstCode = true;

        GifWriter(ColourTable table) {
            this.table = table;
        }

        void encode(Picture image, boolean isInterlaced, Sink out) {
            table.restart();
            for (int i = 0; i < image.total(); i++) {
                int point = image.points[i];
                table.lay(i, (point & 255) < 128 ? ColourTable.TRANSPARENT : point >>> 8);
            }
            int tableBits = 1;
            while (tableBits < 8 && 1 << tableBits < table.colours()) {
                tableBits++;
            }
            putHead(image, tableBits, out);
            putTransparency(out);
            out.put(GifReader.IMAGE);
            out.putZeros(4);
            out.putLittle2(image.width);
            out.putLittle2(image.height);
            out.put(isInterlaced ? GifReader.INTERLACED : 0);
            m = Math.max(tableBits, 2);
            out.put(m);
            layIndices(image, isInterlaced);
            pack(image.total());
            putSubs(out);
            out.put(GifReader.FILE_END);
        }

        private void putHead(Picture image, int tableBits, Sink out) {
            out.putText("GIF89a");
            out.putLittle2(image.width);
            out.putLittle2(image.height);
            out.put(GifReader.HAS_TABLE + 17 * (tableBits - 1));
            out.putZeros(2);
            for (int k = 0; k < 1 << tableBits; k++) {
                int colour = Math.max(0, table.colourOrZero(k));
                out.put(colour >> 16);
                out.put(colour >> 8);
                out.put(colour);
            }
        }

        private void putTransparency(Sink out) {
            int index = table.indexOfTransparent();
            if (index < 0) {
                return;
            }
            out.put(GifReader.EXTENSION);
            out.put(GifReader.TRANSPARENCY);
            out.put(4);
            out.put(1);
            out.putZeros(2);
            out.put(index);
            out.put(0);
        }

        private void layIndices(Picture image, boolean isInterlaced) {
            GifReader.layRowOrder(order, image.height, isInterlaced);
            int k = 0;
            for (int row = 0; row < image.height; row++) {
                int from = order[row] * image.width;
                for (int x = 0; x < image.width; x++) {
                    indices[k] = table.indexAt(from + x);
                    k++;
                }
            }
        }

        private void pack(int total) {
            codes.restart();
            bits = m + 1;
            putBeginning();
            boolean isFull = false;
            int at = 0;
            while (at < total) {
                int row = indices[at];
                at++;
                int longer = at < total ? longerRow(row, indices[at]) : NONE;
                while (longer != NONE) {
                    row = longer;
                    at++;
                    longer = at < total ? longerRow(row, indices[at]) : NONE;
                }
                putCode(row);
                if (isFull) {
                    putBeginning();
                    isFull = false;
                } else if (at < total) {
                    isFull = addRow(row, indices[at]);
                }
            }
            codes.putBits((1 << m) + 1, bits);
            codes.closeBits();
        }

        private void putBeginning() {
            codes.putBits(1 << m, bits);
            Arrays.fill(newestLonger, NONE);
            bits = m + 1;
            nextRow = (1 << m) + 2;
            readersNextRow = nextRow;
            isFirstCode = true;
        }

        /** The reader comes to know a row one code later than it is made here, and goes by that one's number. */
        private void putCode(int code) {
            codes.putBits(code, bits);
            if (!isFirstCode && readersNextRow < GifReader.MOST_CODES) {
                readersNextRow++;
            }
            isFirstCode = false;
            if (readersNextRow == 1 << bits && bits < GifReader.MOST_CODE_BITS) {
                bits++;
            }
        }

        private int longerRow(int row, int index) {
            int longer = newestLonger[row];
            // A row has at most one longer row for each of 256 indices.
            for (int tries = 0; tries < 256 && longer != NONE; tries++) {
                if (lastIndex[longer] == index) {
                    return longer;
                }
                longer = olderSibling[longer];
            }
            return NONE;
        }

        /** Answers whether that was the last row there can be. */
        private boolean addRow(int row, int index) {
            if (nextRow >= GifReader.MOST_CODES) {
                return true;
            }
            lastIndex[nextRow] = index;
            olderSibling[nextRow] = newestLonger[row];
            newestLonger[row] = nextRow;
            nextRow++;
            return nextRow == GifReader.MOST_CODES;
        }

        private void putSubs(Sink out) {
            int total = codes.filled();
            for (int from = 0; from < total; from += SUB_BYTES) {
                int length = Math.min(SUB_BYTES, total - from);
                out.put(length);
                for (int k = 0; k < length; k++) {
                    out.put(codes.byteOrZero(from + k));
                }
            }
            out.put(0);
        }
    }

    /** The colours of an image in the order in which they come, and each point's index among them. */
    private static final class ColourTable {
        /** No colour: those are 0 or more. */
        static final int TRANSPARENT = -1;
        private static final int MOST_COLOURS = 256;
        private static final int CELLS = 1024;

        private final int[] colours = new int[MOST_COLOURS];
        private final int[] indices = new int[MOST_POINTS];
        /** An index and 1, or 0 for none, at or behind the cell that the colour scatters to. */
        private final int[] cells = new int[CELLS];
        private int used = 0;
        private int transparentIndex = -1;

        void restart() {
            used = 0;
            transparentIndex = -1;
            Arrays.fill(cells, 0);
        }

        int colours() {
            return used;
        }

        int indexOfTransparent() {
            return transparentIndex;
        }

        int colourOrZero(int k) {
            return k >= 0 && k < used ? colours[k] : 0;
        }

        int indexAt(int place) {
            return indices[place];
        }

        /** The point of that place has this colour. */
        void lay(int place, int colour) {
            int cell = colour * GOLDEN >>> 22;
            // There are four times as many cells as colours, so an empty one is always come to.
            for (int tries = 0; tries < CELLS && cells[cell] != 0; tries++) {
                if (colours[cells[cell] - 1] == colour) {
                    indices[place] = cells[cell] - 1;
                    return;
                }
                cell = cell + 1 & CELLS - 1;
            }
            if (used >= MOST_COLOURS) {
                throw new UnsupportedOperationException("more than 256 colours");
            }
            if (colour == TRANSPARENT) {
                transparentIndex = used;
            }
            colours[used] = colour;
            indices[place] = used;
            used++;
            cells[cell] = used;
        }
    }

    private static final class BmpFiles {
        private static final int HEAD_BYTES = 54;
        private static final int INFO_BYTES = 40;
        private static final int LENGTH_AT = 2;
        private static final int MOST_RUN = 255;

        private final Source in;
        private final ColourTable table;
        private final int[] palette = new int[256];
        private int colours = 0;
        private int depth = 0;
        private boolean isFromTop = false;
        private boolean hasRuns = false;
        private int start = 0;
        private int column = 0;
        private int line = 0;

        BmpFiles(Source in, ColourTable table) {
            this.in = in;
            this.table = table;
        }

        void decode(Picture image) {
            takeHead(image);
            takeColours();
            need(start >= in.place());
            in.skip(start - in.place());
            if (hasRuns) {
                takeRuns(image);
            } else {
                takeRows(image);
            }
            need(in.left() == 0);
        }

        private void takeHead(Picture image) {
            int length = in.left();
            need(in.next() == 'B' && in.next() == 'M');
            need(in.little4() == length);
            in.skip(4);
            start = in.little4();
            need(in.little4() == INFO_BYTES);
            int width = in.little4();
            long height = in.little4();
            need(width > 0 && height != 0);
            need(in.little2() == 1);
            depth = in.little2();
            need(depth == 1 || depth == 4 || depth == 8 || depth == 24 || depth == 32);
            int packing = in.little4();
            need(packing == 0 || packing == 1 && depth == 8 && height > 0);
            in.skip(12);
            int used = in.little4();
            int most = depth <= 8 ? 1 << depth : 0;
            need(used >= 0 && used <= most);
            in.skip(4);
            hasRuns = packing == 1;
            isFromTop = height < 0;
            colours = used == 0 ? most : used;
            image.resize(width, isFromTop ? -height : height);
        }

        private void takeColours() {
            for (int k = 0; k < colours; k++) {
                palette[k] = takeColour();
                in.skip(1);
            }
        }

        private int takeColour() {
            int blue = in.next();
            int green = in.next();
            return in.next() << 24 | green << 16 | blue << 8 | 255;
        }

        private int colourOf(int index) {
            need(index < colours);
            return palette[index];
        }

        private void takeRows(Picture image) {
            int rowBytes = (image.width * depth + 31) / 32 * 4;
            need(in.left() == rowBytes * image.height);
            for (int row = 0; row < image.height; row++) {
                int y = isFromTop ? row : image.height - 1 - row;
                int rowEnd = in.place() + rowBytes;
                if (depth <= 8) {
                    takeIndices(image, y);
                } else {
                    takePoints(image, y);
                }
                in.skip(rowEnd - in.place());
            }
        }

        private void takeIndices(Picture image, int y) {
            int held = 0;
            int bitsHeld = 0;
            for (int x = 0; x < image.width; x++) {
                if (bitsHeld == 0) {
                    held = in.next();
                    bitsHeld = 8;
                }
                bitsHeld -= depth;
                int index = held >> bitsHeld & (1 << depth) - 1;
                image.points[y * image.width + x] = colourOf(index);
            }
        }

        private void takePoints(Picture image, int y) {
            for (int x = 0; x < image.width; x++) {
                image.points[y * image.width + x] = takeColour();
                if (depth == 32) {
                    in.skip(1);
                }
            }
        }

        private void takeRuns(Picture image) {
            Arrays.fill(image.points, 0, image.total(), colourOf(0));
            column = 0;
            line = 0;
            boolean isEnded = false;
            for (int pairs = 0; !isEnded && pairs < MOST_BYTES; pairs++) {
                int n = in.next();
                int v = in.next();
                if (n > 0) {
                    takeRun(image, n, v);
                } else if (v > 2) {
                    takeSingles(image, v);
                } else if (v == 1) {
                    isEnded = true;
                } else {
                    takeMove(image, v == 2);
                }
            }
            need(isEnded);
        }

        private void takeRun(Picture image, int n, int index) {
            int at = placeFor(image, n);
            Arrays.fill(image.points, at, at + n, colourOf(index));
            column += n;
        }

        private void takeSingles(Picture image, int n) {
            int at = placeFor(image, n);
            for (int k = 0; k < n; k++) {
                image.points[at + k] = colourOf(in.next());
            }
            in.skip(n % 2);
            column += n;
        }

        /** Where the next n points stand, all in one row. */
        private int placeFor(Picture image, int n) {
            need(line < image.height && n <= image.width - column);
            return (image.height - 1 - line) * image.width + column;
        }

        private void takeMove(Picture image, boolean isTold) {
            if (isTold) {
                column += in.next();
                line += in.next();
            } else {
                column = 0;
                line++;
            }
            need(column <= image.width && line <= image.height);
        }

        void encodePlain(Picture image, Sink out) {
            int filling = (4 - 3 * image.width % 4) % 4;
            putHead(image, HEAD_BYTES, 24, out);
            out.putZeros(20);
            for (int y = image.height - 1; y >= 0; y--) {
                for (int x = 0; x < image.width; x++) {
                    putColour(image.points[y * image.width + x] >>> 8, out);
                }
                out.putZeros(filling);
            }
            out.mendLittle4(LENGTH_AT, out.filled());
        }

        void encodeRuns(Picture image, Sink out) {
            table.restart();
            for (int i = 0; i < image.total(); i++) {
                table.lay(i, image.points[i] >>> 8);
            }
            int used = table.colours();
            putHead(image, HEAD_BYTES + 4 * used, 8, out);
            out.putZeros(12);
            out.putLittle4(used);
            out.putZeros(4);
            for (int k = 0; k < used; k++) {
                putColour(table.colourOrZero(k), out);
                out.put(0);
            }
            for (int y = image.height - 1; y >= 0; y--) {
                putRuns(y * image.width, image.width, out);
                out.put(0);
                out.put(y > 0 ? 0 : 1);
            }
            out.mendLittle4(LENGTH_AT, out.filled());
        }

        private void putRuns(int rowAt, int width, Sink out) {
            int index = table.indexAt(rowAt);
            int n = 0;
            for (int x = 0; x < width; x++) {
                int next = table.indexAt(rowAt + x);
                if (next != index || n == MOST_RUN) {
                    out.put(n);
                    out.put(index);
                    index = next;
                    n = 0;
                }
                n++;
            }
            out.put(n);
            out.put(index);
        }

        /** Up to the packing; the file's length is told when it is known. */
        private static void putHead(Picture image, int from, int depth, Sink out) {
            out.putText("BM");
            out.putZeros(8);
            out.putLittle4(from);
            out.putLittle4(INFO_BYTES);
            out.putLittle4(image.width);
            out.putLittle4(image.height);
            out.putLittle2(1);
            out.putLittle2(depth);
            out.putLittle4(depth == 8 ? 1 : 0);
        }

        private static void putColour(int colour, Sink out) {
            out.put(colour);
            out.put(colour >> 8);
            out.put(colour >> 16);
        }
    }
}
