import java.util.ArrayList;
import java.util.Arrays;
import java.util.List;
import java.util.function.Consumer;

/** Promise 8, and with it the plain outlines and the plain font. */
public final class PlainTest {
    private static final Check CHECK = new Check();

    public static void main(String[] args) {
        outlines();
        flags();
        steps();
        font();
        CHECK.sentence("Promise 8", "The buffer becomes the plain font: its length", PlainTest::becomesTheBuffer);
        CHECK.sentence("Promise 8", "the latest contour has no points", PlainTest::refusesEmptyContours);
        CHECK.finish();
    }

    private static void outlines() {
        CHECK.sentence("Terms", "for the first one from 0, 0", PlainTest::takesTheFirstStepFromZero);
        CHECK.sentence("Terms", "are taken from the point before it in the glyph", PlainTest::takesStepsInTheGlyph);
        CHECK.sentence("Plain outlines", "A glyph without contours has no bytes", PlainTest::leavesOutEmptyGlyphs);
        CHECK.sentence("Plain outlines", "how many contours", PlainTest::countsContours);
        CHECK.sentence("Plain outlines", "for each the number (from 0, in the glyph) of its last point",
                PlainTest::numbersLastPoints);
        CHECK.sentence("Plain outlines", "the x of all points; their y", PlainTest::writesXsBeforeYs);
        CHECK.sentence("Plain outlines", "one 0 more if that makes the number of bytes even", PlainTest::makesEven);
    }

    private static void flags() {
        CHECK.sentence("Plain outlines", "A flag is 1 when the point is on", PlainTest::flagsPointsThatAreOn);
        CHECK.sentence("Plain outlines", "+ 16 when dx is 0", PlainTest::flagsNoX);
        CHECK.sentence("Plain outlines", "when dx is -255 .. 255, + 2, and + 16 when it is above 0",
                PlainTest::flagsSmallX);
        CHECK.sentence("Plain outlines", "likewise 32, 4 and 32 for dy", PlainTest::flagsY);
        CHECK.sentence("Plain outlines", "when two or more points behind a point have the same flag as it",
                PlainTest::repeatsFlags);
        CHECK.sentence("Plain outlines", "one behind the other", PlainTest::repeatsFlagsThatAreNeighbours);
        CHECK.sentence("Plain outlines", "the flag + 8, and how many these are", PlainTest::countsRepeatedFlags);
        CHECK.sentence("Plain outlines", "otherwise the flag alone", PlainTest::writesFlagsAlone);
    }

    private static void steps() {
        CHECK.sentence("Plain outlines", "The x of a point are no byte when dx is 0", PlainTest::writesNoX);
        CHECK.sentence("Plain outlines", "one (without the sign) when it is -255 .. 255", PlainTest::writesSmallX);
        CHECK.sentence("Plain outlines", "otherwise two (dx modulo 65536, the higher one first)",
                PlainTest::writesGreatX);
        CHECK.sentence("Plain outlines", "likewise y", PlainTest::writesY);
    }

    private static void font() {
        CHECK.sentence("Plain font", "how many tables; for each, in order, its number", PlainTest::ordersTables);
        CHECK.sentence("Plain font", "where it begins (2)", PlainTest::tellsBeginnings);
        CHECK.sentence("Plain font", "and its length (2)", PlainTest::tellsLengths);
        CHECK.sentence("Plain font", "each with zeros up to a multiple of 4 bytes (not counted in the length)",
                PlainTest::fillsTables);
        CHECK.sentence("Plain font", "Table 0 is the plain outlines of all glyphs", PlainTest::writesAllOutlines);
        CHECK.sentence("Plain font", "its advance and where its outlines begin in table 0, two bytes each",
                PlainTest::writesAdvances);
        CHECK.sentence("Plain font", "the sum of a table's bytes taken four at a time", PlainTest::sumsUp);
        CHECK.sentence("Plain font", "with the zeros behind", PlainTest::sumsUpZerosBehind);
        CHECK.sentence("Plain font", "modulo 2^32", PlainTest::wrapsSums);
        CHECK.sentence("Plain font", "(A font without tables is the one byte 0.)", PlainTest::writesNoTables);
    }

    /** A glyph with points (x, y, on or not) in contours. */
    private static void glyph(FontPacker x, int[]... contours) {
        x.glyph(0);
        for (int[] points : contours) {
            x.contour();
            for (int k = 0; k < points.length; k += 3) {
                x.point(points[k], points[k + 1], points[k + 2] == 1);
            }
        }
    }

    /** Table 0 of the plain font. */
    private static void outlines(String what, Consumer<FontPacker> build, Integer... want) {
        List<Integer> font = Check.bufferBehind(build.andThen(FontPacker::plain));
        int begin = font.get(6) * 256 + font.get(7);
        int length = font.get(8) * 256 + font.get(9);
        CHECK.same(what, font.subList(begin, begin + length), Arrays.asList(want));
    }

    /** The outlines of one glyph with one contour. */
    private static void contour(String what, int[] points, Integer... want) {
        outlines(what, x -> glyph(x, points), want);
    }

    private static void font(String what, Consumer<FontPacker> build, Integer... want) {
        CHECK.same(what, Check.bufferBehind(build.andThen(FontPacker::plain)), Arrays.asList(want));
    }

    private static void takesTheFirstStepFromZero() {
        contour("5, -6", Check.row(5, -6, 1), 1, 0, 1 + 2 + 16 + 4, 5, 6, 0);
        contour("0, 0", Check.row(0, 0, 1), 1, 0, 49, 0);
        outlines("of a second glyph", x -> {
            glyph(x, Check.row(0, 100, 1));
            glyph(x, Check.row(0, 100, 1));
        }, 1, 0, 1 + 16 + 4 + 32, 100, 1, 0, 1 + 16 + 4 + 32, 100);
    }

    private static void takesStepsInTheGlyph() {
        contour("in a contour", Check.row(100, 0, 1, 103, 0, 1), 1, 1, 51, 51, 100, 3);
        outlines("from the contour before", x -> glyph(x, Check.row(100, 0, 1), Check.row(103, 0, 1)),
                2, 0, 1, 51, 51, 100, 3, 0);
    }

    private static void leavesOutEmptyGlyphs() {
        outlines("one", x -> x.glyph(0));
        outlines("six", x -> {
            for (int g = 0; g < 6; g++) {
                x.glyph(g);
            }
        });
        outlines("between others", x -> {
            x.glyph(0);
            glyph(x, Check.row(0, 0, 1));
            x.glyph(0);
            glyph(x, Check.row(7, 0, 1));
            x.glyph(0);
        }, 1, 0, 49, 0, 1, 0, 51, 7);
    }

    private static void countsContours() {
        int[] point = {0, 0, 1};
        outlines("1", x -> glyph(x, point), 1, 0, 49, 0);
        outlines("2", x -> glyph(x, point, point), 2, 0, 1, 49, 49, 0);
        outlines("3", x -> glyph(x, point, point, point), 3, 0, 1, 2, 57, 2);
        outlines("4", x -> glyph(x, point, point, point, point), 4, 0, 1, 2, 3, 57, 3, 0);
    }

    private static void numbersLastPoints() {
        outlines("one, two, three and four points",
                x -> glyph(x, new int[3], new int[6], new int[9], new int[12]), 4, 0, 2, 5, 9, 56, 9, 0);
        outlines("thirteen, one, one and one points",
                x -> glyph(x, new int[39], new int[3], new int[3], new int[3]), 4, 12, 13, 14, 15, 56, 15, 0);
        outlines("sixteen points", x -> glyph(x, new int[48]), 1, 15, 56, 15);
        outlines("in each glyph from 0", x -> {
            glyph(x, new int[6]);
            glyph(x, new int[6]);
        }, 1, 1, 48, 48, 1, 1, 48, 48);
    }

    private static void writesXsBeforeYs() {
        contour("three points", Check.row(1, 2, 1, 4, 6, 1, 9, 12, 1), 1, 2, 63, 2, 1, 3, 5, 2, 4, 6);
        contour("of one and of two bytes", Check.row(1, 258, 1, 261, 261, 1), 1, 1, 19, 37, 1, 1, 4, 1, 2, 3);
    }

    private static void makesEven() {
        contour("three and one", Check.row(0, 0, 1), 1, 0, 49, 0);
        contour("four and none", Check.row(3, 0, 1), 1, 0, 51, 3);
        contour("five and one", Check.row(3, 4, 1), 1, 0, 55, 3, 4, 0);
        contour("six and none", Check.row(3, 256, 1), 1, 0, 19, 3, 1, 0);
        outlines("each glyph by itself", x -> {
            glyph(x, Check.row(0, 0, 1));
            glyph(x, Check.row(0, 0, 0));
        }, 1, 0, 49, 0, 1, 0, 48, 0);
    }

    private static void flagsPointsThatAreOn() {
        contour("on", Check.row(0, 0, 1), 1, 0, 49, 0);
        contour("off", Check.row(0, 0, 0), 1, 0, 48, 0);
        contour("on, off, on", Check.row(256, 256, 1, 512, 512, 0, 768, 768, 1),
                1, 2, 1, 0, 1, 1, 0, 1, 0, 1, 0, 1, 0, 1, 0, 1, 0, 0);
    }

    /** The flag and the bytes of a step dx, with a dy that adds no flag, but the bytes 1 and 0. */
    private static void stepOfX(int dx, int flag, Integer... bytes) {
        List<Integer> want = new ArrayList<>(List.of(1, 0, flag));
        want.addAll(Arrays.asList(bytes));
        want.addAll(List.of(1, 0));
        step("dx " + dx, Check.row(dx, 256, 0), want);
    }

    /** Likewise for dy: here dx has the bytes 1 and 0. */
    private static void stepOfY(int dy, int flag, Integer... bytes) {
        List<Integer> want = new ArrayList<>(List.of(1, 0, flag, 1, 0));
        want.addAll(Arrays.asList(bytes));
        step("dy " + dy, Check.row(256, dy, 0), want);
    }

    private static void step(String what, int[] point, List<Integer> want) {
        if (want.size() % 2 == 1) {
            want.add(0);
        }
        contour(what, point, want.toArray(new Integer[0]));
    }

    private static void flagsNoX() {
        stepOfX(0, 16);
        contour("the same x again", Check.row(256, 0, 0, 256, 0, 0), 1, 1, 32, 48, 1, 0);
    }

    private static void flagsSmallX() {
        stepOfX(1, 18, 1);
        stepOfX(255, 18, 255);
        stepOfX(-1, 2, 1);
        stepOfX(-255, 2, 255);
        stepOfX(256, 0, 1, 0);
        stepOfX(-256, 0, 255, 0);
        stepOfX(4000, 0, 15, 160);
        stepOfX(-4000, 0, 240, 96);
    }

    private static void flagsY() {
        stepOfY(0, 32);
        stepOfY(1, 36, 1);
        stepOfY(255, 36, 255);
        stepOfY(-1, 4, 1);
        stepOfY(-255, 4, 255);
        stepOfY(256, 0, 1, 0);
        stepOfY(-256, 0, 255, 0);
        stepOfY(4000, 0, 15, 160);
        stepOfY(-4000, 0, 240, 96);
    }

    private static void repeatsFlags() {
        contour("two behind", Check.row(1, 1, 1, 2, 2, 1, 3, 3, 1), 1, 2, 63, 2, 1, 1, 1, 1, 1, 1);
        contour("three behind", Check.row(1, 1, 1, 2, 2, 1, 3, 3, 1, 4, 4, 1),
                1, 3, 63, 3, 1, 1, 1, 1, 1, 1, 1, 1);
        outlines("in three contours", x -> glyph(x, new int[3], new int[3], new int[3]), 3, 0, 1, 2, 56, 2);
    }

    private static void repeatsFlagsThatAreNeighbours() {
        contour("another one between", Check.row(0, 0, 1, 0, 0, 1, 0, 0, 0, 0, 0, 1, 0, 0, 1),
                1, 4, 49, 49, 48, 49, 49, 0);
        contour("another one in front", Check.row(0, 0, 0, 0, 0, 1, 0, 0, 1, 0, 0, 1), 1, 3, 48, 57, 2, 0);
        contour("another one behind", Check.row(0, 0, 1, 0, 0, 1, 0, 0, 1, 0, 0, 0), 1, 3, 57, 2, 48, 0);
        contour("rows behind each other",
                Check.row(0, 0, 1, 0, 0, 1, 0, 0, 0, 0, 0, 0, 0, 0, 0, 0, 0, 1), 1, 5, 49, 49, 56, 2, 49, 0);
        outlines("not from glyph to glyph", x -> {
            glyph(x, new int[6]);
            glyph(x, new int[3]);
        }, 1, 1, 48, 48, 1, 0, 48, 0);
    }

    private static void countsRepeatedFlags() {
        for (int points = 3; points <= 16; points++) {
            contour(points + " points", new int[3 * points], 1, points - 1, 56, points - 1);
        }
    }

    private static void writesFlagsAlone() {
        contour("none behind", Check.row(1, 1, 1), 1, 0, 55, 1, 1, 0);
        contour("one behind", Check.row(1, 1, 1, 2, 2, 1), 1, 1, 55, 55, 1, 1, 1, 1);
        contour("one behind each", Check.row(0, 0, 1, 0, 0, 1, 0, 0, 0, 0, 0, 0), 1, 3, 49, 49, 48, 48);
        contour("all different", Check.row(0, 0, 1, 0, 0, 0, 0, 0, 1, 0, 0, 0), 1, 3, 49, 48, 49, 48);
    }

    private static void writesNoX() {
        contour("first", Check.row(0, 300, 1), 1, 0, 17, 1, 44, 0);
        contour("behind another", Check.row(7, 300, 1, 7, 600, 1), 1, 1, 19, 17, 7, 1, 44, 1, 44, 0);
    }

    private static void writesSmallX() {
        contour("-255 and 255", Check.row(-255, 0, 1, 0, 0, 1), 1, 1, 35, 51, 255, 255);
        contour("-1 and 1", Check.row(-1, 0, 1, 0, 0, 1), 1, 1, 35, 51, 1, 1);
    }

    private static void writesGreatX() {
        contour("256 and -256", Check.row(256, 0, 1, 0, 0, 1), 1, 1, 33, 33, 1, 0, 255, 0);
        contour("-257 and 257", Check.row(-257, 0, 1, 0, 0, 1), 1, 1, 33, 33, 254, 255, 1, 1);
        contour("-4000 and 8000", Check.row(-4000, 0, 1, 4000, 0, 1), 1, 1, 33, 33, 240, 96, 31, 64);
        contour("4000 and -8000", Check.row(4000, 0, 1, -4000, 0, 1), 1, 1, 33, 33, 15, 160, 224, 192);
    }

    private static void writesY() {
        contour("300 and 0", Check.row(300, 0, 1, 600, 0, 1), 1, 1, 33, 33, 1, 44, 1, 44);
        contour("-255 and 255", Check.row(0, -255, 1, 0, 0, 1), 1, 1, 21, 53, 255, 255);
        contour("256 and -256", Check.row(0, 256, 1, 0, 0, 1), 1, 1, 17, 17, 1, 0, 255, 0);
        contour("-4000 and 8000", Check.row(0, -4000, 1, 0, 4000, 1), 1, 1, 17, 17, 240, 96, 31, 64);
        contour("4000 and -8000", Check.row(0, 4000, 1, 0, -4000, 1), 1, 1, 17, 17, 15, 160, 224, 192);
    }

    private static void ordersTables() {
        font("tables in another order", x -> {
            x.table(6, 0x0102, 2);
            x.table(2, 3, 1);
            x.table(4, 0x04050607, 4);
            x.table(5, 0x08090A, 3);
        }, 4,
                2, 3, 0, 0, 0, 0, 37, 0, 1,
                4, 4, 5, 6, 7, 0, 41, 0, 4,
                5, 8, 9, 10, 0, 0, 45, 0, 3,
                6, 1, 2, 0, 0, 0, 49, 0, 2,
                3, 0, 0, 0, 4, 5, 6, 7, 8, 9, 10, 0, 1, 2, 0, 0);
        FontPacker all = new FontPacker();
        all.table(6, 0, 1);
        all.table(5, 0, 1);
        all.table(4, 0, 1);
        all.table(3, 0, 1);
        all.table(2, 0, 1);
        all.glyph(0);
        all.plain();
        CHECK.bytes("seven tables", all, 0, 7);
        for (int t = 0; t < 7; t++) {
            CHECK.bytes("their numbers", all, 1 + 9 * t, t);
        }
    }

    private static void tellsBeginnings() {
        FontPacker x = new FontPacker();
        Samples.largest(x);
        x.plain();
        int[] begins = {64, 580, 604, 624, 644, 664, 684};
        for (int t = 0; t < 7; t++) {
            CHECK.bytes("table " + t, x, 1 + 9 * t + 5, begins[t] / 256, begins[t] % 256);
        }
        FontPacker y = new FontPacker();
        y.glyph(0);
        y.plain();
        CHECK.bytes("an empty table 0", y, 6, 0, 19);
        CHECK.bytes("table 1 behind it", y, 15, 0, 19);
    }

    private static void tellsLengths() {
        FontPacker x = new FontPacker();
        Samples.largest(x);
        x.plain();
        CHECK.bytes("the longest table 0", x, 8, 2, 4);
        CHECK.bytes("the longest table 1", x, 17, 0, 24);
        CHECK.bytes("the longest table 6", x, 62, 0, 20);
        FontPacker y = new FontPacker();
        y.glyph(0);
        y.plain();
        CHECK.bytes("the shortest table 0", y, 8, 0, 0);
        CHECK.bytes("the shortest table 1", y, 17, 0, 4);
    }

    private static void fillsTables() {
        int[] fill = {0, 3, 2, 1};
        for (int length = 1; length <= 20; length++) {
            FontPacker x = new FontPacker();
            for (int k = 0; k < length; k++) {
                x.table(2, 255, 1);
            }
            x.table(3, 0xAA, 1);
            int filled = length + fill[length % 4];
            CHECK.answers("a table of " + length, 19 + filled + 4, x::plain);
            CHECK.bytes("a table of " + length + ": its length", x, 8, 0, length);
            for (int k = length; k < filled; k++) {
                CHECK.bytes("zeros behind " + length, x, 19 + k, 0);
            }
            CHECK.bytes("the next table behind " + length, x, 19 + filled, 0xAA, 0, 0, 0);
        }
        font("outlines of 6", x -> glyph(x, Check.row(3, 4, 1)), 2, 0, 5, 0, 55, 3, 0, 19, 0, 6,
                1, 0, 0, 0, 0, 0, 27, 0, 4, 1, 0, 55, 3, 4, 0, 0, 0, 0, 0, 0, 0);
    }

    private static void writesAllOutlines() {
        outlines("six glyphs", x -> {
            for (int g = 0; g < 6; g++) {
                glyph(x, Check.row(g + 1, 0, 1));
            }
        }, 1, 0, 51, 1, 1, 0, 51, 2, 1, 0, 51, 3, 1, 0, 51, 4, 1, 0, 51, 5, 1, 0, 51, 6);
    }

    private static void writesAdvances() {
        font("a glyph without outlines", x -> x.glyph(2000),
                2, 0, 0, 0, 0, 0, 0, 19, 0, 0, 1, 7, 208, 0, 0, 0, 19, 0, 4, 7, 208, 0, 0);
        font("outlines between", x -> {
            x.glyph(2000);
            x.glyph(1);
            x.contour();
            x.point(0, 0, true);
            x.glyph(255);
            x.glyph(256);
            x.contour();
            x.point(7, 0, true);
        }, 2, 0, 2, 0, 100, 7, 0, 19, 0, 8, 1, 9, 208, 0, 8, 0, 27, 0, 16,
                1, 0, 49, 0, 1, 0, 51, 7, 7, 208, 0, 0, 0, 1, 0, 0, 0, 255, 0, 4, 1, 0, 0, 4);
        FontPacker x = new FontPacker();
        Samples.largest(x);
        x.plain();
        for (int g = 0; g < 6; g++) {
            CHECK.bytes("glyph " + g + " of the largest", x, 580 + 4 * g,
                    (2000 - g) / 256, (2000 - g) % 256, 86 * g / 256, 86 * g % 256);
        }
    }

    /** The check of table 2 with these bytes, eight at a time. */
    private static void check(String what, long want, int n, long... eights) {
        FontPacker x = new FontPacker();
        for (long eight : eights) {
            x.table(2, eight, n);
        }
        x.plain();
        CHECK.bytes(what, x, 2, (int) (want >> 24), (int) (want >> 16 & 255), (int) (want >> 8 & 255),
                (int) (want & 255));
    }

    private static void sumsUp() {
        check("0", 0, 8, 0);
        check("four bytes", 0x80FF017FL, 4, 0x80FF017FL);
        check("eight bytes", 0x06080A0CL, 8, 0x0102030405060708L);
        check("with carries", 0x01000000L, 8, 0x00FFFFFF00000001L);
        check("twenty bytes", 5 * 0x01010101L, 4, 0x01010101L, 0x01010101L, 0x01010101L, 0x01010101L, 0x01010101L);
    }

    private static void sumsUpZerosBehind() {
        check("one byte", 0xFF000000L, 1, 255);
        check("two bytes", 0xFFFE0000L, 2, 0xFFFE);
        check("three bytes", 0xFFFEFD00L, 3, 0xFFFEFD);
        check("five bytes", 0x06020304L, 5, 0x0102030405L);
        check("seven bytes", 0x06080A04L, 7, 0x01020304050607L);
    }

    private static void wrapsSums() {
        check("2^32 - 1", 0xFFFFFFFFL, 8, 0xFFFFFFFE00000001L);
        check("2^32", 0, 8, 0xFFFFFFFF00000001L);
        check("2^32 + 1", 1, 8, 0x8000000080000001L);
        check("4 * (2^32 - 1)", 0xFFFFFFFCL, 8, -1L, -1L);
        check("5 * (2^32 - 1)", 0xFFFFFFFBL, 4, -1L, -1L, -1L, -1L, -1L);
        check("beyond by a byte with zeros", 0x7FFFFFFFL, 5, 0xFFFFFFFF80L);
    }

    private static void writesNoTables() {
        font("a new font", Samples::nothing, 0);
        font("a cleared one", x -> {
            Samples.largest(x);
            x.clear();
        }, 0);
        font("one that was read", x -> {
            x.pack();
            Samples.oneGlyph(x);
            x.read();
        }, 0);
    }

    private static void becomesTheBuffer() {
        Integer[] want = {2, 0, 35, 57, 49, 18, 0, 19, 0, 10, 1, 2, 88, 0, 0, 0, 31, 0, 4,
            1, 2, 51, 16, 33, 10, 254, 2, 1, 44, 0, 0, 2, 88, 0, 0};
        font("an empty buffer", Samples::oneGlyph, want);
        font("a full buffer", x -> {
            Samples.fullBuffer(x);
            Samples.oneGlyph(x);
        }, want);
        font("the same again", x -> {
            Samples.oneGlyph(x);
            x.plain();
        }, want);
        font("behind the packed font", x -> {
            Samples.oneGlyph(x);
            x.pack();
        }, want);
        FontPacker x = new FontPacker();
        Samples.oneGlyph(x);
        CHECK.answers("its length", 35, x::plain);
        CHECK.answers("the font is left", 3, () -> x.count(0));
        FontPacker y = new FontPacker();
        CHECK.answers("the shortest", 1, y::plain);
        Samples.largest(y);
        CHECK.answers("the longest", 1 + 63 + 516 + 24 + 100, y::plain);
        CHECK.bytes("its last byte", y, 703, 6);
    }

    private static void refusesEmptyContours() {
        CHECK.badState("alone", x -> {
            x.put(7, 1);
            Samples.emptyContour(x);
        }, FontPacker::plain);
        CHECK.badState("behind another", Samples::emptyContourBehindAnother, FontPacker::plain);
        CHECK.badState("in the sixth glyph", Samples::emptyContourInTheSixthGlyph, FontPacker::plain);
        CHECK.badState("behind a plain font", x -> {
            Samples.oneGlyph(x);
            x.plain();
            x.contour();
        }, FontPacker::plain);
        FontPacker x = new FontPacker();
        Samples.emptyContour(x);
        x.point(0, 0, true);
        CHECK.answers("it has a point now", 19 + 4 + 4, x::plain);
        x.glyph(0);
        CHECK.answers("a glyph without contours", 19 + 4 + 8, x::plain);
    }
}
