import java.util.Arrays;

/** What "Terms" says of PNG files: their PARTS. */
public final class PngSentencesTest {
    private static final byte[] HEAD = Pngs.header(1, 1, 8, 0, 0);
    private static final byte[] ZLIB = Pngs.zlib(0, 200);
    private static final byte[] DATA = Pngs.data(ZLIB);
    private static final byte[] FILE = Pngs.file(HEAD, DATA);
    private static final int POINT = 0xC8C8C8FF;
    private static final byte[] THREE = Pngs.part("PLTE", Desks.bytes(1, 2, 3));
    /** One point of index 0, or grey 0. */
    private static final byte[] ZERO = Pngs.data(Pngs.zlib(0, 0));

    public static void main(String[] args) {
        signature();
        length();
        crc();
        headerFirst();
        headerSize();
        headerBytes();
        kinds();
        paletteOnce();
        paletteBytes();
        paletteNeeded();
        paletteNone();
        transparencyOnce();
        alphas();
        keys();
        keyedPoints();
        transparencyNone();
        data();
        end();
        others();
        unknown();
        Check.finish();
    }

    private static void reads(String what, int point, byte[]... parts) {
        Desks.reads(what, Pngs.file(parts), 0, 1, point);
    }

    private static void broken(String what, byte[]... parts) {
        Desks.refuses(what, Desks.BROKEN, Pngs.file(parts));
    }

    private static void signature() {
        Check.sentence("137 80 78 71 13 10 26 10, then PARTS");
        Desks.reads("the least file", FILE, 0, 1, POINT);
        for (int at = 0; at < 8; at++) {
            Desks.refuses("another byte at " + at, Desks.BROKEN, Desks.with(FILE, at, FILE[at] + 1));
            Desks.refuses("a byte less at " + at, Desks.BROKEN, Desks.with(FILE, at, FILE[at] - 1));
        }
        Desks.refuses("the eight bytes alone", Desks.BROKEN, Pngs.SIGNATURE);
    }

    private static void length() {
        Check.sentence("length (4 bytes, below 2^31)");
        byte[] text = Pngs.part("tEXt", Desks.bytes(1, 2, 3));
        reads("a part of 3 bytes", POINT, HEAD, text, DATA);
        reads("a part of none", POINT, HEAD, Pngs.part("tEXt"), DATA);
        reads("a part of 60000 bytes", POINT, HEAD, Pngs.part("tEXt", new byte[60000]), DATA);
        for (int wrong : new int[] {2, 4, -1, Integer.MIN_VALUE, Integer.MIN_VALUE + 3, Integer.MAX_VALUE, 65536, 1 << 24}) {
            byte[] told = Desks.join(Desks.big4(wrong), Arrays.copyOfRange(text, 4, text.length));
            broken("3 bytes told as " + wrong, HEAD, told, DATA);
        }
        byte[] before = Desks.join(Pngs.SIGNATURE, HEAD, DATA);
        Desks.refuses("a length alone", Desks.BROKEN, Desks.join(before, Desks.big4(0)));
        for (int more = 0; more <= 4; more++) {
            byte[] told = Desks.join(Desks.big4(more), "IEND".getBytes(), Desks.big4(0xAE426082));
            boolean isRight = more == 0;
            if (isRight) {
                Desks.reads("IEND", Desks.join(before, told), 0, 1, POINT);
            } else {
                Desks.refuses("IEND told as " + more, Desks.BROKEN, Desks.join(before, told));
            }
        }
    }

    private static void crc() {
        Check.sentence("CRC (4 bytes: of letters and bytes, the polynomial 3988292384 turned round, from -1 on,"
                + " turned at the end)");
        byte[][] parts = {
            Pngs.header(1, 1, 8, 3, 0), Pngs.part("tEXt", new byte[300]), THREE, Pngs.part("tRNS", (byte) 7), ZERO,
            Pngs.part("zzZZ"), Pngs.end()
        };
        byte[] good = Desks.join(Pngs.SIGNATURE, Desks.join(parts));
        Desks.reads("a file of all parts", good, 0, 1, 0x01020307);
        int at = 8;
        for (byte[] part : parts) {
            for (int bit = 0; bit < 32; bit++) {
                int place = at + part.length - 4 + bit / 8;
                Desks.refuses("bit " + bit + " of a CRC turned", Desks.BROKEN, Desks.with(good, place, good[place] ^ 1 << bit % 8));
            }
            at += part.length;
        }
        byte[] caseTurned = Desks.with(good, good.length - 12 - 6, 'z');
        Desks.refuses("another letter, the same CRC", Desks.BROKEN, caseTurned);
        byte[] byHand = Desks.join(Pngs.SIGNATURE, HEAD, DATA, Desks.bytes(0, 0, 0, 0, 'I', 'E', 'N', 'D', 0xAE, 0x42, 0x60, 0x82));
        Desks.reads("IEND's CRC by hand", byHand, 0, 1, POINT);
    }

    private static void headerFirst() {
        Check.sentence("IHDR first, 13 bytes");
        byte[] text = Pngs.part("tEXt");
        byte[] body = Arrays.copyOfRange(HEAD, 8, 21);
        broken("a part before IHDR", text, HEAD, DATA);
        broken("IDAT before IHDR", DATA, HEAD);
        broken("PLTE before IHDR", THREE, Pngs.header(1, 1, 8, 3, 0), ZERO);
        broken("no IHDR", DATA);
        broken("IEND alone");
        broken("two IHDRs", HEAD, HEAD, DATA);
        broken("IHDR behind IDAT", HEAD, DATA, HEAD);
        broken("12 bytes", Pngs.part("IHDR", Arrays.copyOf(body, 12)), DATA);
        broken("14 bytes", Pngs.part("IHDR", Arrays.copyOf(body, 14)), DATA);
        broken("no bytes", Pngs.part("IHDR"), DATA);
        broken("IHDr", Pngs.part("IHDr", body), DATA);
        reads("13 bytes", POINT, Pngs.part("IHDR", body), DATA);
    }

    private static void headerSize() {
        Check.sentence("width, height (4 each, below 2^31)");
        int least = Integer.MIN_VALUE;
        int most = Integer.MAX_VALUE;
        for (int[] size : new int[][] {{least, 1}, {1, least}, {-1, 1}, {1, -1}, {-1, -1}, {least, least}, {-1, 0}}) {
            Desks.refuses("size " + Arrays.toString(size), Desks.BROKEN, Pngs.file(Pngs.header(size[0], size[1], 8, 0, 0), ZERO));
        }
        for (int[] size : new int[][] {{most, 1}, {1, most}, {most, most}}) {
            Desks.refuses("size " + Arrays.toString(size), Desks.TOO_LARGE, Pngs.file(Pngs.header(size[0], size[1], 8, 0, 0), ZERO));
        }
    }

    private static void headerBytes() {
        Check.sentence("depth, kind, 0, 0, interlace 0 or 1");
        byte[] body = Arrays.copyOfRange(HEAD, 8, 21);
        for (int at : new int[] {10, 11}) {
            for (int wrong : new int[] {1, 2, 128, 255}) {
                broken(wrong + " at byte " + at, Pngs.part("IHDR", Desks.with(body, at, wrong)), DATA);
            }
        }
        reads("interlace 0", POINT, Pngs.header(1, 1, 8, 0, 0), DATA);
        reads("interlace 1", POINT, Pngs.header(1, 1, 8, 0, 1), DATA);
        for (int interlace : new int[] {2, 3, 128, 255}) {
            broken("interlace " + interlace, Pngs.header(1, 1, 8, 0, interlace), DATA);
        }
    }

    private static void kinds() {
        Check.sentence("kind 0 grey: depth 1, 2, 4, 8, 16; 2 RGB: 8, 16; 3 palette: 1, 2, 4, 8; 4 grey and alpha,"
                + " 6 RGBA: 8, 16.");
        int[][] depths = {{1, 2, 4, 8, 16}, {}, {8, 16}, {1, 2, 4, 8}, {8, 16}, {}, {8, 16}};
        int[] numbers = {1, 1, 3, 1, 2, 1, 4};
        for (int kind : new int[] {0, 1, 2, 3, 4, 5, 6, 7, 8, 128, 255}) {
            for (int depth : new int[] {0, 1, 2, 3, 4, 5, 6, 7, 8, 9, 12, 15, 16, 17, 24, 32, 64, 128, 255}) {
                int d = depth;
                boolean isRight = kind <= 6 && Arrays.stream(depths[kind]).anyMatch(right -> right == d);
                int bits = depth * (kind <= 6 ? numbers[kind] : 1);
                byte[] row = Pngs.zlib(new byte[1 + (bits + 7) / 8], 9, 0);
                byte[] head = Pngs.header(1, 1, depth, kind, 0);
                byte[] plte = kind == 3 ? THREE : new byte[0];
                int due = kind == 3 ? 0x010203FF : kind >= 4 ? 0 : 255;
                String what = "kind " + kind + ", depth " + depth;
                if (isRight) {
                    reads(what, due, head, plte, Pngs.data(row));
                } else {
                    broken(what, head, plte, Pngs.data(row));
                }
            }
        }
    }

    private static void paletteOnce() {
        Check.sentence("PLTE: at most once, before IDAT");
        for (int kind : new int[] {2, 3, 6}) {
            int length = kind == 3 ? 2 : kind == 2 ? 4 : 5;
            byte[] head = Pngs.header(1, 1, 8, kind, 0);
            byte[] row = Pngs.data(Pngs.zlib(new byte[length], 9, 0));
            int due = kind == 3 ? 0x010203FF : kind == 2 ? 255 : 0;
            byte[] text = Pngs.part("tEXt");
            reads("once, kind " + kind, due, head, text, THREE, text, row);
            broken("twice, kind " + kind, head, THREE, THREE, row);
            broken("twice, others between, kind " + kind, head, THREE, text, THREE, row);
            broken("behind IDAT, kind " + kind, head, row, THREE);
            broken("before and behind IDAT, kind " + kind, head, THREE, row, THREE);
            broken("between IDATs, kind " + kind, head, row, THREE, Pngs.data(new byte[0]));
        }
    }

    private static void paletteBytes() {
        Check.sentence("3 to 768 bytes, three for each colour");
        byte[][] heads = {Pngs.header(1, 1, 8, 3, 0), Pngs.header(1, 1, 8, 2, 0), Pngs.header(1, 1, 16, 6, 0)};
        int[] lengths = {2, 4, 9};
        int[] due = {255, 255, 0};
        for (int k = 0; k < 3; k++) {
            byte[] row = Pngs.data(Pngs.zlib(new byte[lengths[k]], 9, 0));
            for (int n : new int[] {3, 6, 381, 384, 387, 765, 768}) {
                reads(n + " bytes", due[k], heads[k], Pngs.part("PLTE", new byte[n]), row);
            }
            for (int n : new int[] {0, 1, 2, 4, 5, 7, 767, 769, 770, 771, 774, 1536}) {
                broken(n + " bytes", heads[k], Pngs.part("PLTE", new byte[n]), row);
            }
        }
    }

    private static void paletteNeeded() {
        Check.sentence("kind 3: needed, at most 2^depth colours");
        for (int depth : new int[] {1, 2, 4, 8}) {
            byte[] head = Pngs.header(1, 1, depth, 3, 0);
            int most = 1 << depth;
            broken("none, depth " + depth, head, ZERO);
            broken("none but behind IDAT, depth " + depth, head, ZERO, THREE);
            reads("one, depth " + depth, 0x010203FF, head, THREE, ZERO);
            byte[] colours = Desks.with(new byte[3 * most], 3 * most - 3, 7, 8, 9);
            byte[] last = Pngs.data(Pngs.zlib(0, (most - 1) << 8 - depth));
            reads("2^depth, depth " + depth, 0x070809FF, head, Pngs.part("PLTE", colours), last);
            broken("one more than 2^depth, depth " + depth, head, Pngs.part("PLTE", new byte[3 * most + 3]), ZERO);
        }
        byte[] rgb = Pngs.data(Pngs.zlib(0, 1, 2, 3));
        reads("none for RGB", 0x010203FF, Pngs.header(1, 1, 8, 2, 0), rgb);
        byte[] rgba = Pngs.data(Pngs.zlib(0, 1, 2, 3, 4));
        reads("none for RGBA", 0x01020304, Pngs.header(1, 1, 8, 6, 0), rgba);
    }

    private static void paletteNone() {
        Check.sentence("kinds 0, 4: none");
        byte[] greyAlpha = Pngs.data(Pngs.zlib(0, 9, 5));
        reads("kind 0", POINT, HEAD, DATA);
        broken("kind 0 with PLTE", HEAD, THREE, DATA);
        broken("kind 0 with an empty PLTE", HEAD, Pngs.part("PLTE"), DATA);
        reads("kind 4", 0x09090905, Pngs.header(1, 1, 8, 4, 0), greyAlpha);
        broken("kind 4 with PLTE", Pngs.header(1, 1, 8, 4, 0), THREE, greyAlpha);
    }

    private static void transparencyOnce() {
        Check.sentence("tRNS: at most once, before IDAT and behind PLTE");
        byte[] head = Pngs.header(1, 1, 8, 3, 0);
        byte[] trns = Pngs.part("tRNS", (byte) 9);
        byte[] text = Pngs.part("tEXt");
        reads("palette", 0x01020309, head, THREE, trns, ZERO);
        reads("palette, others between", 0x01020309, head, text, THREE, text, trns, text, ZERO);
        broken("palette, before PLTE", head, trns, THREE, ZERO);
        broken("palette, twice", head, THREE, trns, trns, ZERO);
        broken("palette, behind IDAT", head, THREE, ZERO, trns);
        broken("palette, without PLTE", head, trns, ZERO);
        byte[] key = Pngs.part("tRNS", Desks.bytes(0, 200));
        reads("grey", POINT & ~255, HEAD, key, DATA);
        broken("grey, twice", HEAD, key, key, DATA);
        broken("grey, behind IDAT", HEAD, DATA, key);
        broken("grey, between IDATs", HEAD, DATA, key, Pngs.data(new byte[0]));
        byte[] rgb = Pngs.header(1, 1, 8, 2, 0);
        byte[] row = Pngs.data(Pngs.zlib(0, 7, 8, 9));
        byte[] rgbKey = Pngs.part("tRNS", Desks.bytes(0, 7, 0, 8, 0, 9));
        reads("RGB", 0x07080900, rgb, rgbKey, row);
        reads("RGB, behind PLTE", 0x07080900, rgb, THREE, rgbKey, row);
        broken("RGB, before PLTE", rgb, rgbKey, THREE, row);
        broken("RGB, twice", rgb, rgbKey, rgbKey, row);
        broken("RGB, behind IDAT", rgb, row, rgbKey);
    }

    private static void alphas() {
        Check.sentence("kind 3: 1 to as many bytes as colours, the alphas of the first ones (others 255)");
        byte[] head = Pngs.header(4, 1, 2, 3, 0);
        byte[] colours = Pngs.part("PLTE", Desks.bytes(1, 1, 1, 2, 2, 2, 3, 3, 3));
        byte[] row = Pngs.data(Pngs.zlib(0, 0b00011000));
        int[] due = {0x010101FF, 0x020202FF, 0x030303FF, 0x010101FF};
        Desks.reads("none", Pngs.file(head, colours, row), 0, 4, due);
        byte[] alphas = Desks.bytes(0, 128, 254, 77);
        for (int n = 1; n <= 3; n++) {
            int[] told = due.clone();
            for (int k = 0; k < n; k++) {
                told[k] = due[k] & ~255 | alphas[k] & 255;
            }
            told[3] = told[0];
            Desks.reads(n + " bytes", Pngs.file(head, colours, Pngs.part("tRNS", Arrays.copyOf(alphas, n)), row), 0, 4, told);
        }
        broken("0 bytes", head, colours, Pngs.part("tRNS"), row);
        broken("4 bytes for three colours", head, colours, Pngs.part("tRNS", alphas), row);
        byte[] most = Pngs.part("PLTE", new byte[768]);
        byte[] eight = Pngs.header(1, 1, 8, 3, 0);
        reads("256 bytes", 0, eight, most, Pngs.part("tRNS", new byte[256]), Pngs.data(Pngs.zlib(0, 255)));
        broken("257 bytes", eight, most, Pngs.part("tRNS", new byte[257]), Pngs.data(Pngs.zlib(0, 255)));
    }

    private static void keys() {
        Check.sentence("kind 0: 2, kind 2: 6 bytes: numbers of two bytes, below 2^depth");
        for (int depth : new int[] {1, 2, 4, 8, 16}) {
            byte[] head = Pngs.header(1, 1, depth, 0, 0);
            byte[] row = Pngs.data(Pngs.zlib(new byte[depth == 16 ? 3 : 2], 9, 0));
            int most = (1 << depth) - 1;
            reads("grey key of 2^depth - 1, depth " + depth, 255, head, key(most), row);
            reads("grey key of 0, depth " + depth, 0, head, key(0), row);
            for (int n : new int[] {0, 1, 3, 4, 6}) {
                broken("grey key of " + n + " bytes", head, Pngs.part("tRNS", new byte[n]), row);
            }
            for (int wrong : new int[] {most + 1, most + 2, 32768, 65535}) {
                if (depth < 16) {
                    broken("grey key of " + wrong + ", depth " + depth, head, key(wrong), row);
                }
            }
        }
        for (int depth : new int[] {8, 16}) {
            byte[] head = Pngs.header(1, 1, depth, 2, 0);
            byte[] row = Pngs.data(Pngs.zlib(new byte[depth == 16 ? 7 : 4], 9, 0));
            int most = (1 << depth) - 1;
            reads("RGB key of 2^depth - 1, depth " + depth, 255, head, key(most, most, most), row);
            reads("RGB key of 0, depth " + depth, 0, head, key(0, 0, 0), row);
            for (int n : new int[] {0, 2, 3, 5, 7, 8}) {
                broken("RGB key of " + n + " bytes", head, Pngs.part("tRNS", new byte[n]), row);
            }
            for (int k = 0; k < 3 && depth == 8; k++) {
                int[] numbers = new int[3];
                numbers[k] = 256;
                broken("RGB key with 256 at " + k, head, key(numbers), row);
            }
        }
    }

    private static byte[] key(int... numbers) {
        byte[] bytes = new byte[2 * numbers.length];
        for (int k = 0; k < numbers.length; k++) {
            bytes[2 * k] = (byte) (numbers[k] >> 8);
            bytes[2 * k + 1] = (byte) numbers[k];
        }
        return Pngs.part("tRNS", bytes);
    }

    private static void keyedPoints() {
        Check.sentence("a POINT with just these has alpha 0");
        byte[] rgb = Pngs.header(5, 1, 8, 2, 0);
        byte[] row = Pngs.data(Pngs.zlib(0, 7, 8, 9, 6, 8, 9, 7, 7, 9, 7, 8, 8, 7, 8, 9));
        Desks.reads("RGB", Pngs.file(rgb, key(7, 8, 9), row), 0, 5,
                0x07080900, 0x060809FF, 0x070709FF, 0x070808FF, 0x07080900);
        byte[] rgb16 = Pngs.header(4, 1, 16, 2, 0);
        byte[] row16 = Pngs.data(Pngs.zlib(0, 1, 2, 3, 4, 5, 6, 1, 1, 3, 4, 5, 6, 1, 2, 3, 5, 5, 6, 1, 2, 3, 4, 5, 7));
        Desks.reads("RGB of 16 bits", Pngs.file(rgb16, key(0x0102, 0x0304, 0x0506), row16), 0, 4,
                0x01030500, 0x010305FF, 0x010305FF, 0x010305FF);
        Desks.reads("grey of 16 bits", Pngs.file(Pngs.header(3, 1, 16, 0, 0), key(0x0506), Pngs.data(Pngs.zlib(0, 5, 6, 5, 7, 6, 6))),
                0, 3, 0x05050500, 0x050505FF, 0x060606FF);
        Desks.reads("grey of 1 bit", Pngs.file(Pngs.header(2, 1, 1, 0, 0), key(1), Pngs.data(Pngs.zlib(0, 64))), 0, 2,
                255, 0xFFFFFF00);
        Desks.reads("grey of 4 bits", Pngs.file(Pngs.header(2, 1, 4, 0, 0), key(5), Pngs.data(Pngs.zlib(0, 0x56))), 0, 2,
                0x55555500, 0x666666FF);
        PictureDesk desk = new PictureDesk();
        Desks.load(desk, Pngs.file(HEAD, key(200), DATA));
        desk.read(0);
        Desks.load(desk, FILE);
        desk.read(0);
        Check.due("the next file without tRNS", desk.get(0, 0, 0), POINT);
    }

    private static void transparencyNone() {
        Check.sentence("kinds 4, 6: none");
        byte[] greyAlpha = Pngs.header(1, 1, 8, 4, 0);
        byte[] rgba = Pngs.header(1, 1, 8, 6, 0);
        for (int n : new int[] {0, 1, 2, 4, 6, 8}) {
            byte[] trns = Pngs.part("tRNS", new byte[n]);
            broken("kind 4 with " + n, greyAlpha, trns, Pngs.data(Pngs.zlib(0, 0, 0)));
            broken("kind 6 with " + n, rgba, trns, Pngs.data(Pngs.zlib(0, 0, 0, 0, 0)));
            broken("kind 6 and PLTE with " + n, rgba, THREE, trns, Pngs.data(Pngs.zlib(0, 0, 0, 0, 0)));
        }
    }

    private static void data() {
        Check.sentence("IDAT: one or more, nothing between them: their bytes together are ZLIB.");
        byte[] none = Pngs.data(new byte[0]);
        byte[] text = Pngs.part("tEXt", Desks.bytes(1, 2, 3));
        broken("none", HEAD);
        broken("an empty one", HEAD, none);
        broken("empty ones", HEAD, none, none);
        reads("one", POINT, HEAD, DATA);
        reads("empty ones round it", POINT, HEAD, none, none, DATA, none, none);
        byte[][] single = new byte[ZLIB.length][];
        for (int k = 0; k < ZLIB.length; k++) {
            single[k] = Pngs.data(Desks.bytes(ZLIB[k]));
        }
        reads("one for each byte", POINT, HEAD, Desks.join(single));
        for (int n = 0; n <= ZLIB.length; n++) {
            byte[] first = Pngs.data(Arrays.copyOf(ZLIB, n));
            byte[] rest = Pngs.data(Arrays.copyOfRange(ZLIB, n, ZLIB.length));
            reads("two, the first of " + n, POINT, HEAD, first, rest);
            broken("a part between, the first of " + n, HEAD, first, text, rest);
            broken("in turn, the first of " + n, HEAD, rest, first, text, none);
        }
        PictureDesk desk = new PictureDesk();
        Desks.load(desk, FILE);
        Check.answers("a file that has one", 0, () -> desk.read(0));
        Desks.load(desk, Pngs.file(HEAD, Pngs.part("iDAT", ZLIB)));
        Check.refuses("none, where that file had it", Desks.BROKEN, () -> desk.read(0));
        broken("the ZLIB twice", HEAD, DATA, DATA);
        broken("an empty one behind another part", HEAD, DATA, text, none);
    }

    private static void end() {
        Check.sentence("IEND, empty, is the last.");
        byte[] before = Desks.join(Pngs.SIGNATURE, HEAD, DATA);
        Desks.reads("IEND", Desks.join(before, Pngs.end()), 0, 1, POINT);
        Desks.refuses("none", Desks.BROKEN, before);
        Desks.refuses("another part last", Desks.BROKEN, Desks.join(before, Pngs.part("tEXt")));
        Desks.refuses("of one byte", Desks.BROKEN, Desks.join(before, Pngs.part("IEND", (byte) 0)));
        Desks.refuses("two", Desks.BROKEN, Desks.join(before, Pngs.end(), Pngs.end()));
        Desks.refuses("a part behind it", Desks.BROKEN, Desks.join(before, Pngs.end(), Pngs.part("tEXt")));
        Desks.refuses("a byte behind it", Desks.BROKEN, Desks.join(before, Pngs.end(), Desks.bytes(0)));
        Desks.refuses("before IDAT", Desks.BROKEN, Desks.join(Pngs.SIGNATURE, HEAD, Pngs.end(), DATA));
        Desks.refuses("between", Desks.BROKEN, Desks.join(Pngs.SIGNATURE, HEAD, Pngs.end(), DATA, Pngs.end()));
    }

    private static void others() {
        Check.sentence("Other PARTS (letters are A .. Z, a .. z) with a first letter a .. z: they may stand anywhere"
                + " but between IDATS, and count for nothing");
        for (char first : new char[] {'a', 'm', 'z'}) {
            for (char other : new char[] {'A', 'M', 'Z', 'a', 'm', 'z'}) {
                String letters = first + "" + other + other + other;
                reads(letters, POINT, HEAD, Pngs.part(letters, new byte[3]), DATA, Pngs.part(letters));
            }
        }
        for (int place = 0; place < 4; place++) {
            for (char wrong : new char[] {'@', '[', '`', '{', '0', '9', ' ', 0, 127, 193, 218, 225, 250, 255}) {
                StringBuilder letters = new StringBuilder("abCd");
                letters.setCharAt(place, wrong);
                broken("letter " + (int) wrong + " at " + place, HEAD, Pngs.part(letters.toString()), DATA);
                broken("letter " + (int) wrong + " at " + place + ", at the end", HEAD, DATA, Pngs.part(letters.toString()));
            }
        }
        byte[] text = Pngs.part("tEXt", Pngs.end());
        reads("before and behind", POINT, HEAD, text, text, DATA, text, text);
        byte[] palette = Pngs.header(1, 1, 8, 3, 0);
        byte[] trns = Pngs.part("tRNS", (byte) 4);
        reads("round all", 0x01020304, palette, text, THREE, text, trns, text, ZERO, text);
        reads("like others but for one letter", 0x010203FF, palette, Pngs.part("pLTE"), THREE, Pngs.part("tRNs"),
                Pngs.part("iHDR"), ZERO, Pngs.part("iDAT"), Pngs.part("iEND"), Pngs.part("tRnS", (byte) 1));
        broken("between IDATs", HEAD, DATA, Pngs.part("aaaa"), Pngs.data(new byte[0]));
    }

    private static void unknown() {
        Check.sentence("with a first letter A .. Z: BROKEN");
        for (char first = 'A'; first <= 'Z'; first++) {
            byte[] part = Pngs.part(first + "aaa");
            broken(first + " before IDAT", HEAD, part, DATA);
            broken(first + " behind IDAT", HEAD, DATA, part);
        }
        for (String letters : new String[] {"IHDr", "IDAt", "IENd", "PLTe", "PlTE", "TRNS", "ZZZZ", "AAAA"}) {
            broken(letters, HEAD, Pngs.part(letters), DATA);
            broken(letters + " behind IDAT", HEAD, DATA, Pngs.part(letters));
        }
    }
}
