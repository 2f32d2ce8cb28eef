import java.util.Arrays;
import java.util.function.Consumer;

/** Promises 9 and 10, and what reading takes beside that which is written. */
public final class ReadTest {
    private static final Check CHECK = new Check();

    public static void main(String[] args) {
        CHECK.sentence("Promise 9", "Reads the buffer as a packed font, which the font becomes",
                ReadTest::becomesTheFont);
        CHECK.sentence("Promise 9", "which the font becomes", ReadTest::becomesOneFontAfterAnother);
        CHECK.sentence("Promise 9", "how many tables it has", ReadTest::tellsTables);
        CHECK.sentence("Promise 9", "that fails", ReadTest::refuses);
        CHECK.sentence("Promise 10", "The stage 1 .. 4 in which the latest read() failed", ReadTest::tellsTheStage);
        CHECK.sentence("Promise 10", "0 when it did not", ReadTest::tellsThatNoStageFailed);
        CHECK.sentence("Promise 10", "or there was none", ReadTest::tellsThatThereWasNoReading);
        shortNumbers();
        CHECK.sentence("Reading", "a step in whichever way its sign byte names", ReadTest::readsAllWays);
        CHECK.sentence("Reading", "whatever its bytes are", ReadTest::readsAllBytesOfSteps);
        CHECK.sentence("Reading", "and any rows of bits that lead to the stream", ReadTest::readsAllRowsOfBits);
        CHECK.sentence("Reading", "takes bytes that are written so", ReadTest::readsTheLongestWriting);
        CHECK.finish();
    }

    private static void shortNumbers() {
        CHECK.sentence("Reading", "any way to write a short number", ReadTest::readsAllShortNumbers);
        CHECK.sentence("Short", "as v when it is below 253", ReadTest::readsShortNumbersOfOneByte);
        CHECK.sentence("Short", "as 255 and v - 253", ReadTest::readsShortNumbersBehind255);
        CHECK.sentence("Short", "as 254 and v - 506", ReadTest::readsShortNumbersBehind254);
        CHECK.sentence("Short", "as 253 and v in two bytes", ReadTest::readsShortNumbersBehind253);
    }

    /** Reads these bytes into a font that has other glyphs and tables. */
    private static FontPacker read(String what, int tables, int... bytes) {
        FontPacker x = new FontPacker();
        x.glyph(1);
        x.glyph(2);
        x.table(3, 9, 1);
        Check.load(x, bytes);
        CHECK.answers(what, tables, x::read);
        CHECK.answers(what + ": stage", 0, x::stage);
        return x;
    }

    private static void outline(String what, FontPacker x, int g, int[]... points) {
        CHECK.answers(what + ": points", points.length, () -> x.count(g));
        for (int p = 0; p < points.length; p++) {
            for (int asked = 0; asked < 4; asked++) {
                int point = p;
                int k = asked;
                CHECK.answers(what + ": outline(" + g + ", " + p + ", " + k + ")", points[p][k],
                        () -> x.outline(g, point, k));
            }
        }
    }

    private static void becomesTheFont() {
        FontPacker none = read("no tables", 0, 119, 50, 0, 0);
        CHECK.buffer("the buffer is left", none, 119, 50, 0, 0);
        CHECK.answers("no glyphs are left", 0, () -> none.count(-1));
        CHECK.answers("no tables are left", 1, none::plain);

        int[] bytes = PackedBytes.packed(PackedBytes.HEAD, PackedBytes.STREAM);
        FontPacker one = read("one glyph", 2, bytes);
        CHECK.buffer("the buffer is left", one, bytes);
        CHECK.answers("one glyph", 1, () -> one.count(-1));
        outline("one glyph", one, 0, Check.row(3, 4, 1, 0));
        one.plain();
        CHECK.buffer("one glyph, plain", one, 2, 0, 5, 0, 55, 3, 0, 19, 0, 6, 1, 0, 7, 0, 0, 0, 27, 0, 4,
                1, 0, 55, 3, 4, 0, 0, 0, 0, 7, 0, 0);

        FontPacker table = read("one table", 1, PackedBytes.packed(Check.row(119, 50, 1, 5, 2, 2), 8, 9));
        CHECK.answers("the glyphs are gone", 0, () -> table.count(-1));
        CHECK.answers("table 5 is there", 3, () -> table.table(5, 0, 1));
        CHECK.answers("table 3 is gone", 1, () -> table.table(3, 0, 1));

        CHECK.same("the largest", Check.fontBehind(x -> {
            Samples.largest(x);
            x.pack();
            x.clear();
            x.glyph(7);
            x.read();
        }), Check.fontBehind(Samples::largest));
        CHECK.same("an empty contour is gone", Check.fontBehind(x -> {
            x.pack();
            Samples.emptyContour(x);
            x.read();
        }), Check.fontBehind(Samples::nothing));
        FontPacker twice = read("once", 2, bytes);
        CHECK.answers("twice", 2, twice::read);
        outline("twice", twice, 0, Check.row(3, 4, 1, 0));
    }

    private static void readPacked(FontPacker x, Consumer<FontPacker> build) {
        x.clear();
        build.accept(x);
        x.pack();
        x.read();
    }

    /** What was read before leaves nothing behind, and what fails behind it changes nothing. */
    private static void becomesOneFontAfterAnother() {
        Consumer<FontPacker> other = x -> {
            x.glyph(3);
            x.contour();
            x.point(-8, -9, false);
            x.table(6, 5, 1);
        };
        String want = Check.fontBehind(other);
        CHECK.same("behind a larger one", Check.fontBehind(x -> {
            readPacked(x, Samples::largest);
            readPacked(x, other);
        }), want);
        CHECK.same("behind two", Check.fontBehind(x -> {
            readPacked(x, Samples::oneGlyph);
            readPacked(x, Samples::something);
            readPacked(x, other);
        }), want);
        CHECK.same("none behind a larger one", Check.fontBehind(x -> {
            readPacked(x, Samples::largest);
            readPacked(x, Samples::nothing);
        }), Check.fontBehind(Samples::nothing));
        CHECK.same("tables behind glyphs", Check.fontBehind(x -> {
            readPacked(x, Samples::oneGlyph);
            readPacked(x, y -> y.table(2, 1, 1));
        }), Check.fontBehind(x -> x.table(2, 1, 1)));
        for (int[] bytes : new int[][] {{}, {119, 50, 0, 0, 0}, PackedBytes.glyphs(0, 4, Check.row(1, 5), 7),
            PackedBytes.glyphs(1, 4, Check.row(1, 0), 7)}) {
            CHECK.same("a failure behind it", Check.fontBehind(x -> {
                readPacked(x, other);
                fail(x, bytes);
            }), want);
        }
    }

    private static void fail(FontPacker x, int... bytes) {
        Check.load(x, bytes);
        CHECK.fails("read", IllegalArgumentException.class, x::read);
    }

    private static void tellsTables() {
        FontPacker x = new FontPacker();
        int want = 0;
        x.pack();
        CHECK.answers("none", want, x::read);
        x.glyph(0);
        want = 2;
        for (int t = 2; t <= 6; t++) {
            x.pack();
            CHECK.answers("tables", want, x::read);
            x.table(t, 0, 1);
            want++;
        }
        x.pack();
        CHECK.answers("all tables", 7, x::read);
    }

    private static void refuses() {
        CHECK.fails("an empty buffer", IllegalArgumentException.class, () -> new FontPacker().read());
        CHECK.fails("a full buffer", IllegalArgumentException.class, () -> Check.made(Samples::fullBuffer).read());
        CHECK.fails("a plain font", IllegalArgumentException.class, () -> {
            FontPacker x = new FontPacker();
            Samples.oneGlyph(x);
            x.plain();
            return x.read();
        });
        CHECK.fails("a packed font that fills the buffer", IllegalArgumentException.class, () -> {
            FontPacker x = new FontPacker();
            x.pack();
            for (int k = 0; k < 187; k++) {
                x.put(0, 8);
            }
            return x.read();
        });
    }

    private static void fail(FontPacker x, String what, int stage, int... bytes) {
        fail(x, bytes);
        CHECK.answers(what + ": stage", stage, x::stage);
    }

    private static void tellsTheStage() {
        FontPacker x = new FontPacker();
        fail(x, "stage 4", 4, PackedBytes.glyphs(2, 4, Check.row(1, 0), 7));
        fail(x, "stage 1", 1, 119);
        fail(x, "stage 3", 3, PackedBytes.glyphs(0, 4, Check.row(0), 7));
        fail(x, "stage 2", 2, 119, 50, 0, 0, 0);
        x.clear();
        x.glyph(1);
        x.pack();
        x.plain();
        x.put(0, 1);
        x.cut(0);
        CHECK.answers("other calls leave it", 2, x::stage);
        CHECK.answers("asking leaves it", 2, x::stage);
        CHECK.fails("a refused call", IllegalArgumentException.class, () -> x.glyph(-1));
        CHECK.answers("a refused call leaves it", 2, x::stage);
        CHECK.answers("another object", 0, () -> new FontPacker().stage());
    }

    private static void tellsThatNoStageFailed() {
        FontPacker x = new FontPacker();
        x.pack();
        x.read();
        CHECK.answers("the first reading", 0, x::stage);
        fail(x, "stage 1", 1);
        x.pack();
        x.read();
        CHECK.answers("a reading behind one that failed", 0, x::stage);
    }

    private static void tellsThatThereWasNoReading() {
        FontPacker x = new FontPacker();
        CHECK.answers("a new object", 0, x::stage);
        Samples.oneGlyph(x);
        x.pack();
        CHECK.answers("other calls", 0, x::stage);
    }

    /** The advance that is read from these bytes. */
    private static void advance(int want, int... bytes) {
        FontPacker x = read("advance " + want + " as " + Arrays.toString(bytes), 2, PackedBytes.advances(1, bytes));
        x.plain();
        CHECK.bytes("advance " + want + " as " + Arrays.toString(bytes), x, 19, want / 256, want % 256);
    }

    private static void readsAllShortNumbers() {
        advance(0, 253, 0, 0);
        advance(252, 253, 0, 252);
        advance(253, 253, 0, 253);
        advance(506, 255, 253);
        advance(508, 255, 255);
        advance(508, 254, 2);
        advance(508, 253, 1, 252);
        advance(761, 253, 2, 249);
        int[] bytes = PackedBytes.glyphs(6, 4, Check.row(1, 1, 253, 0, 1, 23, 0x23), 253, 0, 7);
        FontPacker x = read("points too", 2, bytes);
        outline("points too", x, 0, Check.row(3, 4, 1, 0));
        x.pack();
        CHECK.buffer("written as said again", x, PackedBytes.packed(PackedBytes.HEAD, PackedBytes.STREAM));
    }

    private static void readsShortNumbersOfOneByte() {
        advance(0, 0);
        advance(1, 1);
        advance(252, 252);
    }

    private static void readsShortNumbersBehind255() {
        advance(253, 255, 0);
        advance(505, 255, 252);
        advance(507, 255, 254);
    }

    private static void readsShortNumbersBehind254() {
        advance(506, 254, 0);
        advance(761, 254, 255);
    }

    private static void readsShortNumbersBehind253() {
        advance(762, 253, 2, 250);
        advance(1, 253, 0, 1);
        advance(256, 253, 1, 0);
        advance(2000, 253, 7, 208);
    }

    /** A point that a sign byte and what belongs to it lead to from 0, 0. */
    private static void step(String what, int sign, int[] details, int x, int y) {
        // The plain length of the one point is found by writing the point itself.
        FontPacker written = new FontPacker();
        written.glyph(7);
        written.contour();
        written.point(x, y, sign < 128);
        written.plain();
        int length = written.at(8) * 256 + written.at(9);
        FontPacker read = read(what, 2,
                PackedBytes.glyphs(length, 4, Check.join(Check.row(1, 1, 1, sign), details), 7));
        outline(what, read, 0, Check.row(x, y, sign < 128 ? 1 : 0, 0));
    }

    private static void readsAllWays() {
        step("way 1, the first", 0, Check.row(5), 0, -5);
        step("way 1, the last", 9, Check.row(5), 0, 1029);
        step("way 2, the first", 10, Check.row(5), -5, 0);
        step("way 2, the last", 19, Check.row(5), 1029, 0);
        step("way 3, the first", 20, Check.row(0x23), -3, -4);
        step("way 3, the last", 83, Check.row(0x23), 51, 52);
        step("way 4, the first", 84, Check.row(5, 6), -6, -7);
        step("way 4, the middle", 84 + 12 + 8 + 1, Check.row(5, 6), 262, -519);
        step("way 4, the last", 119, Check.row(5, 6), 518, 519);
        step("way 5, the first", 120, Check.row(1, 0x23, 4), -18, -772);
        step("way 5, the last", 123, Check.row(1, 0x23, 4), 18, 772);
        step("way 6, the first", 124, Check.row(1, 2, 3, 4), -258, -772);
        step("way 6, the last", 127, Check.row(1, 2, 3, 4), 258, 772);
        step("off, way 1", 128, Check.row(5), 0, -5);
        step("off, way 2", 128 + 19, Check.row(5), 1029, 0);
        step("off, way 3", 128 + 20 + 16 + 8 + 2, Check.row(0xA5), -27, 38);
        step("off, way 4", 128 + 84, Check.row(5, 6), -6, -7);
        step("off, way 5", 128 + 121, Check.row(1, 0x23, 4), 18, -772);
        step("off, the last", 255, Check.row(1, 2, 3, 4), 258, 772);
        readsAllSigns(3, 1, 16, 17, 32, 33, 48, 49, 64);
        readsAllSigns(4, 1, 256, 257, 512, 513, 768);
    }

    /** The sizes are the ends of what belongs to one sign: both axes have all of them, with all signs. */
    private static void readsAllSigns(int way, int... sizes) {
        for (int a : sizes) {
            for (int b : sizes) {
                for (int signs = 0; signs < 4; signs++) {
                    int dx = signs % 2 == 1 ? a : -a;
                    int dy = signs / 2 == 1 ? b : -b;
                    int[] bytes = Reference.stepBytes(way, dx, dy, signs % 2, signs / 2, true).stream()
                            .mapToInt(Integer::intValue).toArray();
                    step("way " + way + ": " + dx + ", " + dy, bytes[0],
                            Arrays.copyOfRange(bytes, 1, bytes.length), dx, dy);
                }
            }
        }
    }

    private static void readsAllBytesOfSteps() {
        step("way 1, -0", 0, Check.row(0), 0, 0);
        step("way 1, -0 and off", 128, Check.row(0), 0, 0);
        step("way 1, the greatest", 9, Check.row(255), 0, 1279);
        step("way 2, -0", 10, Check.row(0), 0, 0);
        step("way 2, the greatest", 18, Check.row(255), -1279, 0);
        step("way 3, the least", 20, Check.row(0), -1, -1);
        step("way 3, the greatest", 83, Check.row(255), 64, 64);
        step("way 4 for 1, 1", 87, Check.row(0, 0), 1, 1);
        step("way 4 for 64, 64", 84, Check.row(63, 63), -64, -64);
        step("way 4, the greatest", 119, Check.row(255, 255), 768, 768);
        step("way 5 for 0, 0", 120, Check.row(0, 0, 0), 0, 0);
        step("way 5 for 1, 1", 123, Check.row(0, 16, 1), 1, 1);
        step("way 5 for 0, 5", 122, Check.row(0, 0, 5), 0, 5);
        step("way 5, far", 122, Check.row(250, 15, 160), -4000, 4000);
        step("way 6 for 0, 0", 124, Check.row(0, 0, 0, 0), 0, 0);
        step("way 6 for 1, -2", 125, Check.row(0, 1, 0, 2), 1, -2);
        step("way 6 for -300, 0", 126, Check.row(1, 44, 0, 0), -300, 0);
        step("way 6, far", 254, Check.row(15, 160, 15, 160), -4000, 4000);
        FontPacker x = read("back to the other end", 2, PackedBytes.glyphs(12, 4,
                Check.row(1, 1, 2, 127, 124, 15, 160, 15, 160, 31, 64, 31, 64), 7));
        outline("back to the other end", x, 0, Check.row(4000, 4000, 1, 0), Check.row(-4000, -4000, 1, 0));
    }

    /** Table 2 that is read from these bits, and as it is written by them. */
    private static void bits(String what, int length, String bits, String written) {
        FontPacker x = read(what, 1, PackedBytes.table(length, bits));
        CHECK.answers(what + ": packed", PackedBytes.table(length, written).length, x::pack);
        CHECK.buffer(what + ": packed", x, PackedBytes.table(length, written));
    }

    private static void readsAllRowsOfBits() {
        String nine = Check.literal(9);
        bits("one by one", 6, Check.literal(9, 9, 9, 9, 9, 9), nine + "1 011 1");
        bits("not at the first place", 6, Check.literal(9, 9) + "1 010 1", nine + "1 011 1");
        bits("not with the least d", 6, Check.literal(9, 9) + "1 010 010", nine + "1 011 1");
        bits("not the longest", 8, nine + "1 1 1" + "1 010 1", nine + "1 00101 1");
        bits("the greatest d", 8, Check.literal(1, 2, 3, 4) + "1 010 00100", Check.literal(1, 2, 3, 4) + "1 010 00100");
        bits("beyond the place", 7, Check.literal(1, 2) + "1 011 010", Check.literal(1, 2) + "1 011 010");
        bits("up to the end", 20, nine + "1 000010001 1", nine + "1 000010001 1");
        bits("no bits left", 8, Check.literal(1, 2, 3, 4, 5, 6, 7, 8), Check.literal(1, 2, 3, 4, 5, 6, 7, 8));
        bits("seven zeros left", 1, nine + "0000000", nine);
        bits("one zero left", 7, Check.literal(1, 2, 3, 4, 5, 6, 7) + "0", Check.literal(1, 2, 3, 4, 5, 6, 7));
    }

    /** Six glyphs of four contours, whose numbers and steps of 0, 0 are written as long as can be. */
    private static void readsTheLongestWriting() {
        int[] counts = {6, 4, 4, 4, 4, 4, 4};
        int[] sizes = new int[24 * 3];
        int[] signs = new int[96];
        int[] advances = new int[6 * 3];
        for (int c = 0; c < 24; c++) {
            sizes[3 * c] = 253;
            sizes[3 * c + 2] = 4;
        }
        Arrays.fill(signs, 127);
        for (int g = 0; g < 6; g++) {
            advances[3 * g] = 253;
        }
        int[] outlines = Check.join(counts, sizes, signs, new int[96 * 4]);
        int together = outlines.length + advances.length + 100;
        int[] head = {119, 50, 7, 64, 6 * 8, 128 + outlines.length / 128, outlines.length % 128, 65, 24, 18,
            2, 20, 3, 20, 4, 20, 5, 20, 6, 20, 128 + together / 128, together % 128};
        FontPacker x = read("the longest writing", 7,
                PackedBytes.packed(head, Check.join(outlines, advances, new int[100])));
        for (int g = 0; g < 6; g++) {
            int glyph = g;
            CHECK.answers("points of glyph " + g, 16, () -> x.count(glyph));
            CHECK.answers("the last one's contour", 3, () -> x.outline(glyph, 15, 3));
        }
        CHECK.answers("plain", 64 + 48 + 24 + 100, x::plain);
    }
}
