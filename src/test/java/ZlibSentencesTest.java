import java.util.Arrays;

/** What "Terms" says of ZLIB and DEFLATE, which are the data of PNG files. */
public final class ZlibSentencesTest {
    private static final int[] LENGTHS = {
        3, 4, 5, 6, 7, 8, 9, 10, 11, 13, 15, 17, 19, 23, 27, 31, 35, 43, 51, 59, 67, 83, 99, 115, 131, 163, 195, 227, 258
    };
    private static final byte[] BODY = Deflates.end(Deflates.fixed(0, 5)).bytes();
    private static final byte[] BODY_ADLER = Pngs.adler(Desks.bytes(0, 5));
    /** Codes: 256 is 0, 0 is 10, 5 is 110, 257 is 111. */
    private static final int[] LITERALS = Deflates.lengths(258, 0, 2, 5, 3, 256, 1, 257, 3);
    /** Codes for lengths: 0 is 00, 1 is 01, 2 is 10, 16 is 110, 17 is 1110, 18 is 1111. */
    private static final int[] REPEATS = Deflates.lengths(19, 0, 2, 1, 2, 2, 2, 16, 3, 17, 4, 18, 4);

    public static void main(String[] args) {
        head();
        adler();
        blocks();
        stored();
        fixed();
        counts();
        lengthsOfLengths();
        repeats();
        orderOfCodes();
        allWords();
        endHasCode();
        copyLengths();
        distances();
        farthest();
        noMeaning();
        behindLastBlock();
        zlibEnd();
        Check.finish();
    }

    private static void head() {
        Check.sentence("two bytes c, f: c mod 16 is 8, c / 16 at most 7, 256 c + f a multiple of 31, f / 32 even");
        byte[] rest = Desks.join(BODY, BODY_ADLER);
        for (int c = 0; c < 256; c++) {
            boolean isMethod = c % 16 == 8 && c / 16 <= 7;
            for (int f = 0; f < 256; f++) {
                boolean isMultiple = (256 * c + f) % 31 == 0;
                // Of the many that are wrong in both ways some are enough.
                if (!isMethod && !isMultiple && (c + f) % 16 != 0) {
                    continue;
                }
                byte[] file = Deflates.png(Desks.join(Desks.bytes(c, f), rest), 1);
                PictureDesk desk = new PictureDesk();
                Desks.load(desk, file);
                if (isMethod && isMultiple && f / 32 % 2 == 0) {
                    Check.answers("head " + c + " " + f, 0, () -> desk.read(0));
                } else {
                    Check.refuses("head " + c + " " + f, Desks.BROKEN, () -> desk.read(0));
                }
            }
        }
    }

    /** A grey row that is read with just this ADLER. */
    private static void adlerIs(String what, byte[] row, int due) {
        byte[] packed = Pngs.zlib(row, 9, 0);
        byte[] before = Arrays.copyOf(packed, packed.length - 4);
        int[] points = new int[row.length - 1];
        for (int k = 0; k < points.length; k++) {
            points[k] = (row[k + 1] & 255) * 0x01010100 | 255;
        }
        byte[] right = Desks.join(before, Desks.big4(due));
        Desks.reads(what, Deflates.png(right, points.length), 0, points.length, points);
        for (int bit = 0; bit < 32; bit++) {
            byte[] wrong = Desks.join(before, Desks.big4(due ^ 1 << bit));
            Desks.refuses(what + ", bit " + bit + " turned", Desks.BROKEN, Deflates.png(wrong, points.length));
        }
    }

    private static void adler() {
        Check.sentence("a number of four bytes: ADLER: 65536 b + a, a 1 and all bytes, b all values of a behind each byte,"
                + " both modulo 65521, of what was written.");
        adlerIs("zeros", new byte[2], 2 << 16 | 1);
        adlerIs("0 5", Desks.bytes(0, 5), 7 << 16 | 6);
        // 256 times 255 and 240 are 65520: a comes to just 65521.
        byte[] row = new byte[259];
        Arrays.fill(row, 2, 258, (byte) 255);
        row[258] = (byte) 240;
        long b = 2;
        for (int k = 1; k <= 256; k++) {
            b += 1 + 255 * k;
        }
        adlerIs("a wraps to 0", row, (int) (b % 65521) << 16);
        // One less: a stays at the most that it can be.
        row[258] = (byte) 239;
        adlerIs("a is 65520", row, (int) ((b + 65520) % 65521) << 16 | 65520);
        byte[] many = new byte[16385];
        Arrays.fill(many, 1, many.length, (byte) 255);
        long a = 1;
        long sum = 1;
        for (int k = 1; k <= 16384; k++) {
            a = (a + 255) % 65521;
            sum = (sum + a) % 65521;
        }
        adlerIs("both wrap often", many, (int) (sum << 16 | a));
    }

    private static void blocks() {
        Check.sentence("BLOCKS: a bit, 1 for the last one, two bits");
        Deflates.gives("one", Deflates.end(Deflates.fixed(0, 5)), 0, 5);
        Desks.Bits two = Deflates.block(0, 1).code(Deflates.fixedCode(0)).code(Deflates.fixedCode(256));
        Deflates.gives("two", Deflates.end(Deflates.block(two, 1, 1).code(Deflates.fixedCode(5))), 0, 5);
        Desks.Bits empty = Deflates.end(Deflates.block(0, 1));
        Deflates.end(Deflates.block(empty, 0, 1));
        Deflates.gives("empty ones before", Deflates.end(Deflates.block(empty, 1, 1).code(Deflates.fixedCode(0))
                .code(Deflates.fixedCode(5))), 0, 5);
        Desks.Bits behind = Deflates.block(0, 1).code(Deflates.fixedCode(0)).code(Deflates.fixedCode(5));
        Deflates.gives("an empty one behind", Deflates.end(Deflates.block(Deflates.end(behind), 1, 1)), 0, 5);
        Desks.Bits many = new Desks.Bits();
        for (int k = 0; k < 5000; k++) {
            Deflates.end(Deflates.block(many, 0, 1));
        }
        Deflates.gives("5000 empty ones", Deflates.end(Deflates.block(many, 1, 1).code(Deflates.fixedCode(0))
                .code(Deflates.fixedCode(5))), 0, 5);
        Deflates.broken("none that is the last", Deflates.end(Deflates.block(0, 1).code(Deflates.fixedCode(0))
                .code(Deflates.fixedCode(5))), 0, 5);
        Deflates.broken("two last ones", Deflates.end(Deflates.block(Deflates.end(Deflates.fixed(0)), 1, 1)
                .code(Deflates.fixedCode(5))), 0, 5);
        Deflates.broken("of type 3, as fixed", Deflates.end(Deflates.block(1, 3).code(Deflates.fixedCode(0))
                .code(Deflates.fixedCode(5))), 0, 5);
        Deflates.broken("of type 3, as stored", Deflates.block(1, 3).toByte().number(2, 16).number(65533, 16)
                .number(0x0500, 16), 0, 5);
        Desks.Bits dynamic = Deflates.plainHead(LITERALS, Deflates.lengths(1)).code("10").code("110").code("0");
        Deflates.gives("of type 2", dynamic, 0, 5);
        Deflates.broken("of type 3, as 2", dynamic.turn(1), 0, 5);
        Deflates.broken("without its end", Deflates.fixed(0, 5), 0, 5);
        Deflates.broken("without its codes", Deflates.block(1, 2), 0, 5);
        Deflates.broken("no bits", new Desks.Bits(), 0, 5);
    }

    private static void stored() {
        Check.sentence("0 stored: up to the next byte's beginning nothing counts, two numbers of 16 bits n and 65535 - n,"
                + " n bytes");
        Deflates.gives("three", Deflates.stored(new Desks.Bits(), 1, 3).number(0x070500, 24), 0, 5, 7);
        for (int skipped = 0; skipped < 32; skipped++) {
            Desks.Bits bits = Deflates.block(1, 0).number(skipped, 5).number(2, 16).number(65533, 16).number(0x0500, 16);
            Deflates.gives("bits " + skipped + " before", bits, 0, 5);
            Desks.Bits first = Deflates.block(0, 0).number(skipped, 5).number(1, 16).number(65534, 16).number(0, 8);
            Deflates.gives("bits " + skipped + " before, and a block behind",
                    Deflates.end(Deflates.block(first, 1, 1).code(Deflates.fixedCode(5))), 0, 5);
        }
        Desks.Bits onByte = Deflates.end(Deflates.block(0, 1).code(Deflates.fixedCode(0))
                .code(Deflates.fixedCode(144)).code(Deflates.fixedCode(144)));
        // 3 and 8, 9, 9, 7 bits, then 3 and 1 bits come to a byte's end.
        Deflates.gives("behind a block", Deflates.stored(onByte, 1, 1).number(9, 8), 0, 144, 144, 9);
        Desks.Bits none = Deflates.stored(Deflates.stored(new Desks.Bits(), 0, 0), 0, 0);
        Deflates.gives("of none", Deflates.stored(none, 1, 2).number(0x0900, 16), 0, 9);
        for (int wrong : new int[] {65532, 65534, 2, 0, 65535}) {
            Deflates.broken("second number " + wrong,
                    Deflates.block(1, 0).toByte().number(2, 16).number(wrong, 16).number(0x0500, 16), 0, 5);
        }
        Deflates.broken("n beyond the bytes", Deflates.stored(new Desks.Bits(), 1, 200).number(0x0500, 16), 0, 5);
        Deflates.broken("n of one more", Deflates.stored(new Desks.Bits(), 1, 3).number(0x0500, 24), 0, 5);
        Deflates.broken("n of one less", Deflates.stored(new Desks.Bits(), 1, 1).number(0x00, 8), 0, 5);
        Deflates.broken("65535 of them", Deflates.stored(new Desks.Bits(), 1, 65535).number(0x0500, 16), 0, 5);
        longest();
    }

    /** As many stored bytes, of points of eight, as feeds can bring, which fill a tape up to 65520. */
    private static void longest() {
        int width = 8181;
        int n = 1 + 8 * width;
        byte[] rows = new byte[n];
        for (int k = 1; k < n; k++) {
            rows[k] = (byte) (k * k >> 3);
        }
        byte[] deflate = Desks.join(Desks.bytes(1, n, n >> 8, ~n, ~n >> 8), rows);
        byte[] file = Pngs.file(Pngs.header(width, 1, 16, 6, 0), Pngs.data(Pngs.zlibRound(deflate, rows)));
        int[] due = new int[width];
        for (int k = 0; k < width; k++) {
            int at = 1 + 8 * k;
            due[k] = (rows[at] & 255) << 24 | (rows[at + 2] & 255) << 16 | (rows[at + 4] & 255) << 8 | rows[at + 6] & 255;
        }
        Check.due("bytes of the file", file.length, 65517);
        Desks.reads("the longest", file, 0, width, due);
    }

    private static void fixed() {
        Check.sentence("1 fixed: CODES of 8 bits for 0 .. 143, 9 for .. 255, 7 for .. 279, 8 for .. 287;"
                + " 5 bits for distances 0 .. 31");
        Desks.Bits bits = Deflates.fixed(0);
        int[] row = new int[257];
        for (int v = 0; v < 256; v++) {
            row[v + 1] = v;
            bits.code(Deflates.fixedCode(v));
        }
        Deflates.gives("all bytes", Deflates.end(bits), row);
        Deflates.gives("143 by hand", Deflates.block(1, 1).code("00110000").code("10111111").code("0000000"), 0, 143);
        Deflates.gives("144 by hand", Deflates.block(1, 1).code("00110000").code("110010000").code("0000000"), 0, 144);
        Deflates.gives("255 by hand", Deflates.block(1, 1).code("00110000").code("111111111").code("0000000"), 0, 255);
        int[] by279 = new int[2 + 114];
        int[] by280 = new int[2 + 130];
        Arrays.fill(by279, 1, by279.length, 9);
        Arrays.fill(by280, 1, by280.length, 9);
        Deflates.gives("279 by hand", Deflates.fixed(0, 9).code("0010111").number(15, 4).code("00000").code("0000000"), by279);
        Deflates.gives("280 by hand", Deflates.fixed(0, 9).code("11000000").number(15, 4).code("00000").code("0000000"), by280);
    }

    private static void counts() {
        Check.sentence("2: numbers of 5 bits and 257, at most 286, 5 and 1, at most 30, 4 and 4:"
                + " how many lengths of CODES for literals, distances, lengths there are");
        int[] none = Deflates.lengths(1);
        for (int n : new int[] {257, 258, 285, 286}) {
            int[] literals = Deflates.lengths(n, 0, 2, 5, 2, 256, 1);
            Deflates.gives(n + " literals", Deflates.plainHead(literals, none).code("10").code("11").code("0"), 0, 5);
        }
        for (int n : new int[] {287, 288}) {
            int[] literals = Deflates.lengths(n, 0, 2, 5, 2, 256, 1);
            Deflates.broken(n + " literals", Deflates.plainHead(literals, none).code("10").code("11").code("0"), 0, 5);
        }
        for (int n : new int[] {1, 2, 29, 30}) {
            Deflates.gives(n + " distances",
                    Deflates.plainHead(LITERALS, Deflates.lengths(n, n - 1, 1)).code("10").code("110").code("0"), 0, 5);
        }
        for (int n : new int[] {31, 32}) {
            Deflates.broken(n + " distances",
                    Deflates.plainHead(LITERALS, Deflates.lengths(n, 3, 1)).code("10").code("110").code("0"), 0, 5);
        }
        int[] last = Deflates.lengths(286, 0, 2, 5, 2, 256, 2, 285, 2);
        int[] due = new int[2 + 258];
        Arrays.fill(due, 1, due.length, 5);
        Deflates.gives("285 is the last literal", Deflates.plainHead(last, Deflates.lengths(1, 0, 1))
                .code("00").code("01").code("11").code("0").code("10"), due);
    }

    private static void lengthsOfLengths() {
        Check.sentence("lengths of these last, 3 bits each, in the order 16 17 18 0 8 7 9 6 10 5 11 4 12 3 13 2 14 1 15"
                + " (others 0)");
        // All 19 are told: 15 is the last of them, and has codes of its own.
        int[] long15 = Deflates.lengths(257, 256, 1, 0, 2, 5, 15, 4, 15);
        for (int length = 3; length <= 14; length++) {
            long15[length + 100] = length;
        }
        Deflates.gives("codes of 1 to 15 bits",
                Deflates.plainHead(long15, Deflates.lengths(1)).code("10").code("1".repeat(15)).code("0"), 0, 5);
        // 18 are told, up to 1; 15 has none.
        Deflates.gives("18 of them", Deflates.dynamicHead(257, 1, 18, REPEATS).code("10").code("1111").number(127, 7)
                .code("1111").number(105, 7).code("10").code("01").code("00").code("10").code("11").code("0"), 0, 255);
        // Four are told: 16, 17, 18 and 0, so no literal can have a code.
        int[] four = Deflates.lengths(19, 0, 1, 18, 1);
        Deflates.broken("four of them", Deflates.dynamicHead(257, 1, 4, four).code("1").number(127, 7)
                .code("1").number(109, 7).number(0, 30), 0, 5);
        // 5 is the tenth; nine are told, so it has none and the codes have words left.
        int[] tenth = Deflates.lengths(19, 0, 1, 5, 1);
        Deflates.broken("one that is not told", Deflates.dynamicHead(257, 1, 9, tenth).number(0, 300), 0, 5);
        // The block before has literals 13, 14 and 15, whose lengths are none of these.
        int[] before = Deflates.lengths(257, 0, 2, 13, 3, 14, 4, 15, 4, 256, 1);
        Desks.Bits two = Deflates.plainHead(before, Deflates.lengths(1)).turn(0).code("10").code("0");
        two.append(Deflates.dynamicHead(257, 1, 18, REPEATS).code("10").code("1111").number(127, 7)
                .code("1111").number(105, 7).code("10").code("01").code("00").code("11").code("0"));
        Deflates.gives("18 of them, behind another block", two, 0, 255);
        int[] seven = Deflates.lengths(19, 0, 1, 1, 2, 2, 3, 3, 4, 16, 5, 17, 6, 18, 7, 15, 7);
        Deflates.gives("codes of 1 to 7 bits", Deflates.dynamicHead(257, 1, seven)
                .code("110").code("1111111").number(127, 7).code("1111111").number(103, 7).code("0").code("0")
                .code("110").code("10").code("0").code("10").code("11").code("0"), 0, 255);
    }

    /** A block of REPEATS: 0 and 1 have lengths 2, then these bits; 0 and 1 are written then. */
    private static Desks.Bits twos(int literals, int distances) {
        return Deflates.dynamicHead(literals, distances, REPEATS).code("10").code("10");
    }

    private static Desks.Bits zeros(Desks.Bits bits, int n) {
        int left = n;
        while (left >= 11) {
            int some = Math.min(138, left);
            bits.code("1111").number(some - 11, 7);
            left -= some;
        }
        for (; left > 0; left--) {
            bits.code("00");
        }
        return bits;
    }

    private static void repeats() {
        Check.sentence("0 .. 15 a length, 16 the one before (there is one) 3 times and a number of 2 bits,"
                + " 17 zeros 3 times and 3 bits, 18 zeros 11 times and 7 bits, no more than there are.");
        for (int more = 0; more < 8; more++) {
            Desks.Bits bits = twos(257, 1).code("1110").number(more, 3);
            zeros(bits, 254 - 3 - more).code("01").code("00").code("10").code("11").code("0");
            Deflates.gives("17 and " + more, bits, 0, 1);
        }
        for (int more : new int[] {0, 1, 64, 127}) {
            Desks.Bits bits = twos(257, 1).code("1111").number(more, 7);
            zeros(bits, 254 - 11 - more).code("01").code("00").code("10").code("11").code("0");
            Deflates.gives("18 and " + more, bits, 0, 1);
        }
        for (int more = 0; more < 4; more++) {
            // 0 has length 1; then so many zeros are told by 16, and 255 and 256 have 2.
            Desks.Bits bits = Deflates.dynamicHead(257, 1, REPEATS).code("01").code("00").code("110").number(more, 2);
            zeros(bits, 255 - 2 - 3 - more).code("10").code("10").code("00").code("0").code("10").code("11");
            Deflates.gives("16 and " + more, bits, 0, 255);
        }
        // 16 behind one length alone: the first one is 0, and so are 1 .. 3; 4 and 5 have 2.
        Deflates.gives("16 as the second", zeros(Deflates.dynamicHead(257, 1, REPEATS).code("00").code("110").number(0, 2)
                .code("10").code("10"), 250).code("01").code("00").code("10").code("11").code("0"), 4, 5);
        Deflates.gives("16 over both rows", zeros(twos(258, 4), 254)
                .code("10").code("110").number(2, 2).code("00").code("01").code("10"), 0, 1);
        Deflates.gives("18 over both rows", zeros(Deflates.dynamicHead(258, 30, REPEATS).code("10").code("10"), 254)
                .code("01").code("1111").number(31 - 11, 7).code("10").code("11").code("0"), 0, 1);
        Deflates.broken("16 at the beginning", zeros(Deflates.dynamicHead(257, 1, REPEATS).code("110").number(0, 2), 253)
                .code("01").code("00").code("0").number(0, 40), 0, 1);
        String[] beyond = {"110", "1110", "1111"};
        int[] bits = {2, 3, 7};
        int[] least = {3, 3, 11};
        for (int k = 0; k < 3; k++) {
            for (int left = least[k] - 2; left <= least[k]; left++) {
                // So many lengths are left where so many are told at least.
                Desks.Bits told = zeros(twos(257, 1 + left), 254).code("01").code("00");
                told.code(beyond[k]).number(0, bits[k]).code("10").code("11").code("0");
                if (left == least[k]) {
                    Deflates.gives("code " + (16 + k) + " to the end", told, 0, 1);
                } else {
                    Deflates.broken("code " + (16 + k) + " beyond the end, " + left + " left", told, 0, 1);
                }
            }
        }
    }

    private static void orderOfCodes() {
        Check.sentence("CODES: of the same length they rise with what they mean, and behind each shorter one");
        // 9 is 00, 256 is 01; 3 is 100, 5 is 101, 7 is 110; 0 is 1110, 255 is 1111.
        int[] literals = Deflates.lengths(257, 9, 2, 256, 2, 3, 3, 5, 3, 7, 3, 0, 4, 255, 4);
        Deflates.gives("of 2, 3 and 4 bits", Deflates.plainHead(literals, Deflates.lengths(1)).code("1110").code("00")
                .code("100").code("101").code("110").code("1111").code("01"), 0, 9, 3, 5, 7, 255);
        // Distances: 2 is 0, 0 is 10, 3 is 11.
        int[] distances = Deflates.lengths(4, 2, 1, 0, 2, 3, 2);
        int[] some = Deflates.lengths(258, 0, 3, 1, 3, 2, 3, 3, 3, 256, 2, 257, 2);
        // 256 is 00, 257 is 01, 0 .. 3 are 100 .. 111.
        Desks.Bits bits = Deflates.plainHead(some, distances).code("100").code("101").code("110").code("111");
        bits.code("01").code("0").code("01").code("11").code("01").code("10").code("00");
        Deflates.gives("of distances", bits, 0, 1, 2, 3, 1, 2, 3, 3, 1, 2, 2, 2, 2);
    }

    private static void allWords() {
        Check.sentence("all words of bits are used up (but: distances may have one CODE of one bit, or none)");
        int[] none = Deflates.lengths(1);
        Deflates.gives("no distance", Deflates.plainHead(LITERALS, none).code("10").code("110").code("0"), 0, 5);
        Deflates.gives("30 distances without codes",
                Deflates.plainHead(LITERALS, new int[30]).code("10").code("110").code("0"), 0, 5);
        Deflates.gives("one distance", Deflates.plainHead(LITERALS, Deflates.lengths(1, 0, 1))
                .code("10").code("110").code("111").code("0").code("0"), 0, 5, 5, 5, 5);
        Deflates.gives("one distance, not the first", Deflates.plainHead(LITERALS, Deflates.lengths(2, 1, 1))
                .code("10").code("110").code("110").code("111").code("0").code("0"), 0, 5, 5, 5, 5, 5);
        Deflates.gives("two distances", Deflates.plainHead(LITERALS, Deflates.lengths(2, 0, 1, 1, 1))
                .code("10").code("110").code("110").code("111").code("1").code("0"), 0, 5, 5, 5, 5, 5);
        Deflates.broken("a distance where there is none", Deflates.plainHead(LITERALS, none)
                .code("10").code("110").code("111").code("0").code("0").number(0, 40), 0, 5, 5, 5, 5);
        Deflates.broken("the word that is no distance", Deflates.plainHead(LITERALS, Deflates.lengths(1, 0, 1))
                .code("10").code("110").code("111").code("1").code("0").number(0, 40), 0, 5, 5, 5, 5);
        for (int length = 2; length <= 15; length++) {
            Deflates.broken("one distance of " + length + " bits", Deflates.plainHead(LITERALS, Deflates.lengths(1, 0, length))
                    .code("10").code("110").code("0").number(0, 40), 0, 5);
        }
        int[][] wrong = {{1, 2}, {2, 2}, {1, 1, 1}, {2, 2, 2}, {1, 2, 3}, {1, 2, 2, 2}, {1, 1, 15}, {15, 15}, {1, 15}};
        for (int[] distances : wrong) {
            Deflates.broken("distances " + Arrays.toString(distances),
                    Deflates.plainHead(LITERALS, distances).code("10").code("110").code("0"), 0, 5);
        }
        brokenLiterals();
        brokenLengthCodes();
    }

    private static void brokenLiterals() {
        int[][] wrong = {
            {256, 1}, {0, 2, 5, 3, 256, 1}, {0, 1, 5, 1, 256, 1}, {0, 2, 5, 2, 256, 2}, {0, 2, 5, 2, 9, 2, 256, 1},
            {0, 1, 256, 2}, {0, 1, 5, 15, 256, 2}, {0, 15, 5, 15, 256, 15}
        };
        for (int[] literals : wrong) {
            Desks.Bits bits = Deflates.plainHead(Deflates.lengths(257, literals), Deflates.lengths(1));
            Deflates.broken("literals " + Arrays.toString(literals), bits.code("10").code("110").code("0"), 0, 5);
            Deflates.broken("literals " + Arrays.toString(literals) + " and zeros", bits.number(0, 40), 0, 5);
        }
        // Two words, both used: only the end and one byte.
        Deflates.gives("two literals", Deflates.plainHead(Deflates.lengths(257, 0, 1, 256, 1), Deflates.lengths(1))
                .code("0").code("0").code("1"), 0, 0);
    }

    private static void brokenLengthCodes() {
        int[][] wrong = {{1, 1}, {}, {0, 1, 1, 1, 2, 1}, {0, 1, 1, 2}, {0, 7}, {0, 1, 1, 2, 2, 2, 3, 2}};
        for (int[] lengths : wrong) {
            Deflates.broken("codes for lengths " + Arrays.toString(lengths),
                    Deflates.dynamicHead(257, 1, Deflates.lengths(19, lengths)).number(0, 600), 0, 5);
        }
        // 0 is 00, 1 is 01, 2 is 10: all that is needed, but 11 is left.
        int[] three = Deflates.lengths(19, 0, 2, 1, 2, 2, 2);
        Desks.Bits bits = Deflates.dynamicHead(257, 1, three);
        for (int length : Deflates.lengths(258, 0, 2, 5, 2, 256, 1)) {
            bits.code(Deflates.word(length, 2));
        }
        Deflates.broken("a word of those for lengths left", bits.code("10").code("11").code("0"), 0, 5);
    }

    private static void endHasCode() {
        Check.sentence("256 has a CODE.");
        int[] none = Deflates.lengths(1);
        Deflates.broken("257 literals, 256 of none", Deflates.plainHead(Deflates.lengths(257, 0, 1, 5, 1), none)
                .code("0").code("1"), 0, 5);
        Deflates.broken("258 literals, 256 of none",
                Deflates.plainHead(Deflates.lengths(258, 0, 1, 5, 2, 257, 2), Deflates.lengths(1, 0, 1))
                        .code("0").code("10").number(0, 40), 0, 5);
        Deflates.gives("256 of one bit", Deflates.plainHead(Deflates.lengths(257, 0, 2, 5, 2, 256, 1), none)
                .code("10").code("11").code("0"), 0, 5);
    }

    private static void copyLengths() {
        Check.sentence("257 .. 285 lengths: 3 .. 10, then four each with 1, 2, 3, 4, 5 bits more, 285: 258");
        for (int code = 0; code < 29; code++) {
            int more = code < 8 || code == 28 ? 0 : (code - 4) / 4;
            for (int extra : new int[] {0, (1 << more) / 2, (1 << more) - 1}) {
                int length = LENGTHS[code] + extra;
                Desks.Bits bits = Deflates.fixed(0, 9, 4).code(Deflates.fixedCode(257 + code)).number(extra, more);
                int[] row = new int[3 + length];
                for (int k = 1; k < row.length; k++) {
                    row[k] = k % 2 == 1 ? 9 : 4;
                }
                Deflates.gives("code " + (257 + code) + " and " + extra, Deflates.end(bits.code("00001")), row);
                row = Arrays.copyOf(row, row.length - 1);
                Deflates.broken("code " + (257 + code) + " and " + extra + ", a point less", bits, row);
            }
        }
    }

    /**
     * Three bytes, zeros, and the three bytes again, so many back, in points of eight bytes; then 255, whose code is all
     * ones, so that a bit more or less in the distance is seen.
     */
    private static void distance(int distance, int code, int extra, int more) {
        int before = 1;
        while ((before + distance + 4) % 8 != 1) {
            before++;
        }
        Desks.Bits bits = literalZeros(Deflates.block(1, 1), before);
        for (int v = 7; v <= 9; v++) {
            bits.code(Deflates.fixedCode(v));
        }
        literalZeros(bits, distance - 3);
        bits.code(Deflates.fixedCode(257)).code(Deflates.word(code, 5)).number(extra, more);
        Deflates.end(bits.code(Deflates.fixedCode(255)));
        byte[] row = new byte[before + distance + 4];
        for (int k = 0; k < 3; k++) {
            row[before + k] = (byte) (7 + k);
            row[before + distance + k] = (byte) (7 + k);
        }
        row[row.length - 1] = (byte) 255;
        int[] due = new int[row.length / 8];
        for (int k = 0; k < due.length; k++) {
            int at = 1 + 8 * k;
            due[k] = row[at] << 24 | row[at + 2] << 16 | row[at + 4] << 8 | row[at + 6];
        }
        byte[] data = Pngs.data(Pngs.zlibRound(bits.bytes(), row));
        Desks.reads("distance " + distance, Pngs.file(Pngs.header(due.length, 1, 16, 6, 0), data), 0, due.length, due);
    }

    private static Desks.Bits literalZeros(Desks.Bits bits, int n) {
        int left = n;
        if (left > 0) {
            bits.code(Deflates.fixedCode(0));
            left--;
        }
        for (; left >= 258; left -= 258) {
            bits.code(Deflates.fixedCode(285)).code("00000");
        }
        for (; left > 0; left--) {
            bits.code(Deflates.fixedCode(0));
        }
        return bits;
    }

    private static void distances() {
        Check.sentence("a distance: 0 .. 3: 1 .. 4, then two each with 1 .. 13 bits more:"
                + " so many bytes are copied from so far back, one by one");
        int base = 1;
        for (int code = 0; code < 30; code++) {
            int more = code < 4 ? 0 : (code - 2) / 2;
            if (base > 2) {
                distance(base, code, 0, more);
                distance(base + (1 << more) - 1, code, (1 << more) - 1, more);
            }
            base += 1 << more;
        }
        Check.due("the largest distance and 1", base, 32769);
        Deflates.gives("from 1 back", Deflates.end(Deflates.fixed(0, 4, 9).code(Deflates.fixedCode(258)).code("00000")),
                0, 4, 9, 9, 9, 9, 9);
        Deflates.gives("from 2 back", Deflates.end(Deflates.fixed(0, 4, 9).code(Deflates.fixedCode(259)).code("00001")),
                0, 4, 9, 4, 9, 4, 9, 4);
        Desks.Bits over = Deflates.end(Deflates.block(0, 1).code(Deflates.fixedCode(0)).code(Deflates.fixedCode(8)));
        Deflates.gives("from another block", Deflates.end(Deflates.block(over, 1, 1).code(Deflates.fixedCode(257)).code("00000")),
                0, 8, 8, 8, 8);
        Desks.Bits behindStored = Deflates.stored(new Desks.Bits(), 0, 3).number(0x060500, 24);
        Deflates.gives("from a stored block", Deflates.end(Deflates.block(behindStored, 1, 1).code(Deflates.fixedCode(257))
                .code("00001")), 0, 5, 6, 5, 6, 5);
    }

    private static void farthest() {
        Check.sentence("at most 32768 back and not before the first");
        distance(32768, 29, 8191, 13);
        Desks.Bits first = Deflates.fixed(0, 1, 2, 3).code(Deflates.fixedCode(257)).code("00011");
        Deflates.gives("from the first byte", Deflates.end(first), 0, 1, 2, 3, 0, 1, 2);
        Desks.Bits before = Deflates.fixed(0, 1, 2, 3).code(Deflates.fixedCode(257)).code("00100").number(0, 1);
        Deflates.broken("from before the first byte", Deflates.end(before), 0, 1, 2, 3, 0, 1, 2);
        Desks.Bits far = Deflates.fixed(0, 1, 2, 3).code(Deflates.fixedCode(257)).code("11101").number(8191, 13);
        Deflates.broken("from far before the first byte", Deflates.end(far), 0, 1, 2, 3, 0, 1, 2);
        Desks.Bits none = Deflates.block(1, 1).code(Deflates.fixedCode(257)).code("00000");
        Deflates.broken("a copy where there is nothing", Deflates.end(none), 0, 0, 0);
    }

    private static void noMeaning() {
        Check.sentence("286, 287, 30, 31: BROKEN.");
        for (int literal : new int[] {286, 287}) {
            Desks.Bits bits = Deflates.fixed(0, 1, 2).code(Deflates.fixedCode(literal)).code("00000");
            Deflates.broken("" + literal, Deflates.end(bits), 0, 1, 2, 2, 2, 2);
            Desks.Bits atEnd = Deflates.fixed(0, 1, 2).code(Deflates.fixedCode(literal));
            Deflates.broken(literal + " without a distance", Deflates.end(atEnd), 0, 1, 2);
        }
        for (String distance : new String[] {"11110", "11111"}) {
            Desks.Bits bits = Deflates.fixed(0, 1, 2).code(Deflates.fixedCode(257)).code(distance);
            Deflates.broken("distance " + distance, Deflates.end(bits).number(0, 40), 0, 1, 2, 2, 2, 2);
        }
    }

    private static void behindLastBlock() {
        Check.sentence("Behind the last BLOCK nothing counts up to the next byte's beginning.");
        // 3 and 8, 8, 7 bits: six are left in the byte.
        for (int left = 0; left < 64; left++) {
            Deflates.gives("bits " + left, Deflates.end(Deflates.fixed(0, 5)).number(left, 6), 0, 5);
        }
        // 3 and 8, six times 9, 7 bits: the block ends with its byte.
        Desks.Bits whole = Deflates.end(Deflates.fixed(0, 144, 144, 144, 144, 144, 144));
        Deflates.gives("none are left", whole, 0, 144, 144, 144, 144, 144, 144);
        Check.due("bits of that block", whole.bytes().length * 8, 3 + 8 + 6 * 9 + 7);
        byte[] more = Desks.join(Desks.bytes(120, 1), BODY, Desks.bytes(0), BODY_ADLER);
        Desks.refuses("a byte more", Desks.BROKEN, Deflates.png(more, 1));
    }

    private static void zlibEnd() {
        Check.sentence("ADLER is the end of ZLIB.");
        byte[] whole = Desks.join(Desks.bytes(120, 1), BODY, BODY_ADLER);
        Desks.reads("its end", Deflates.png(whole, 1), 0, 1, 0x050505FF);
        for (int more = 0; more < 256; more += 15) {
            Desks.refuses("a byte behind", Desks.BROKEN, Deflates.png(Desks.join(whole, Desks.bytes(more)), 1));
        }
        for (int n = 0; n < whole.length; n++) {
            Desks.refuses("the first " + n, Desks.BROKEN, Deflates.png(Arrays.copyOf(whole, n), 1));
        }
        byte[] apart = Pngs.file(Pngs.header(1, 1, 8, 0, 0), Pngs.data(whole), Pngs.data(Desks.bytes(0)));
        Desks.refuses("a byte in an IDAT behind", Desks.BROKEN, apart);
    }
}
