/** Promise 8, and with it the plain outlines and the plain font. */
public final class PlainTest {
    private static final Check CHECK = new Check();

    public static void main(String[] args) {
        writesOneGlyph();
        writesSteps();
        writesFlags();
        writesContours();
        writesGlyphsWithoutContours();
        writesChecks();
        fillsTables();
        writesTheLargest();
        Samples.emptyContours(CHECK, FontPacker::plain, 19 + 8 + 8);
        CHECK.finish();
    }

    /** The outlines of one glyph with these points (x, y, on or not), all in one contour. */
    private static void outlines(String what, int[] points, int... want) {
        FontPacker x = new FontPacker();
        x.glyph(0);
        x.contour();
        for (int k = 0; k < points.length; k += 3) {
            x.point(points[k], points[k + 1], points[k + 2] == 1);
        }
        x.plain();
        int[] got = Check.bytesOf(x);
        CHECK.due(what + ": length", got[8] * 256 + got[9], want.length);
        CHECK.due(what + ": begin", got[6] * 256 + got[7], 19);
        for (int k = 0; k < want.length && 19 + k < got.length; k++) {
            CHECK.due(what + ": byte " + k, got[19 + k], want[k]);
        }
    }

    private static void writesOneGlyph() {
        FontPacker x = new FontPacker();
        Samples.oneGlyph(x);
        x.put(1, 1);
        CHECK.answers("one glyph", 35, x::plain);
        int[] want = {2, 0, 35, 57, 49, 18, 0, 19, 0, 10, 1, 2, 88, 0, 0, 0, 31, 0, 4,
            1, 2, 51, 16, 33, 10, 254, 2, 1, 44, 0, 0, 2, 88, 0, 0};
        CHECK.buffer("one glyph", x, want);
        CHECK.answers("the same again", 35, x::plain);
        CHECK.buffer("the same again", x, want);
        CHECK.answers("the font is left", 3, () -> x.count(0));
    }

    private static void writesSteps() {
        outlines("0 and 0", Check.row(0, 0, 0), 1, 0, 48, 0);
        outlines("255 and -255", Check.row(255, -255, 1), 1, 0, 1 + 2 + 16 + 4, 255, 255, 0);
        outlines("-255 and 255", Check.row(-255, 255, 0), 1, 0, 2 + 4 + 32, 255, 255, 0);
        outlines("256 and -256", Check.row(256, -256, 1), 1, 0, 1, 1, 0, 255, 0, 0);
        outlines("-256 and 256", Check.row(-256, 256, 1), 1, 0, 1, 255, 0, 1, 0, 0);
        outlines("8000 and -8000", Check.row(-4000, 4000, 1, 4000, -4000, 0),
                1, 1, 1, 0, 240, 96, 31, 64, 15, 160, 224, 192);
    }

    private static void writesFlags() {
        outlines("two of the same", Check.row(1, 1, 1, 2, 2, 1), 1, 1, 55, 55, 1, 1, 1, 1);
        outlines("three of the same", Check.row(1, 1, 1, 2, 2, 1, 3, 3, 1),
                1, 2, 63, 2, 1, 1, 1, 1, 1, 1);
        outlines("four of the same", Check.row(1, 1, 1, 2, 2, 1, 3, 3, 1, 4, 4, 1),
                1, 3, 63, 3, 1, 1, 1, 1, 1, 1, 1, 1);
        outlines("two, three, one", Check.row(0, 0, 1, 0, 0, 1, 0, 0, 0, 0, 0, 0, 0, 0, 0, 0, 0, 1),
                1, 5, 49, 49, 56, 2, 49, 0);
        outlines("on is a part of the flag", Check.row(0, 0, 1, 0, 0, 0, 0, 0, 1), 1, 2, 49, 48, 49, 0);
        int[] sixteen = new int[48];
        outlines("sixteen of the same", sixteen, 1, 15, 56, 15);
    }

    private static void writesContours() {
        FontPacker x = new FontPacker();
        x.glyph(1);
        for (int c = 0; c < 4; c++) {
            x.contour();
            for (int p = 0; p <= c; p++) {
                x.point(5, 5, true);
            }
        }
        CHECK.answers("four contours", 19 + 12 + 4, x::plain);
        int[] got = Check.bytesOf(x);
        int[] want = {4, 0, 2, 5, 9, 55, 57, 8, 5, 5, 0, 0};
        for (int k = 0; k < want.length; k++) {
            CHECK.due("four contours: byte " + k, got[19 + k], want[k]);
        }
    }

    private static void writesGlyphsWithoutContours() {
        FontPacker x = new FontPacker();
        x.glyph(2000);
        CHECK.answers("a glyph without outlines", 23, x::plain);
        CHECK.buffer("a glyph without outlines", x,
                2, 0, 0, 0, 0, 0, 0, 19, 0, 0, 1, 7, 208, 0, 0, 0, 19, 0, 4, 7, 208, 0, 0);
        x.glyph(1);
        x.contour();
        x.point(0, 0, true);
        x.glyph(2);
        x.glyph(3);
        x.contour();
        x.point(7, 0, true);
        CHECK.answers("outlines between", 19 + 8 + 16, x::plain);
        CHECK.buffer("outlines between", x,
                2, 0, 2, 0, 100, 7, 0, 19, 0, 8, 1, 7, 214, 0, 8, 0, 27, 0, 16,
                1, 0, 49, 0, 1, 0, 51, 7,
                7, 208, 0, 0, 0, 1, 0, 0, 0, 2, 0, 4, 0, 3, 0, 4);
    }

    private static void writesChecks() {
        FontPacker x = new FontPacker();
        x.table(2, 0xFFFFFFFF00000002L, 8);
        x.plain();
        CHECK.buffer("a sum beyond 2^32", x,
                1, 2, 0, 0, 0, 1, 0, 10, 0, 8, 255, 255, 255, 255, 0, 0, 0, 2);
        x.table(2, 0x80, 1);
        x.plain();
        CHECK.buffer("a sum with zeros behind", x,
                1, 2, 128, 0, 0, 1, 0, 10, 0, 9, 255, 255, 255, 255, 0, 0, 0, 2, 128, 0, 0, 0);
    }

    private static void fillsTables() {
        FontPacker x = new FontPacker();
        x.table(6, 0x0102, 2);
        x.table(2, 3, 1);
        x.table(4, 0x04050607, 4);
        x.table(5, 0x08090A, 3);
        CHECK.answers("four tables", 1 + 36 + 16, x::plain);
        CHECK.buffer("four tables", x, 4,
                2, 3, 0, 0, 0, 0, 37, 0, 1,
                4, 4, 5, 6, 7, 0, 41, 0, 4,
                5, 8, 9, 10, 0, 0, 45, 0, 3,
                6, 1, 2, 0, 0, 0, 49, 0, 2,
                3, 0, 0, 0, 4, 5, 6, 7, 8, 9, 10, 0, 1, 2, 0, 0);
    }

    private static void writesTheLargest() {
        FontPacker x = new FontPacker();
        Samples.largest(x);
        CHECK.answers("the largest font", 1 + 63 + 516 + 24 + 100, x::plain);
        CHECK.answers("the length of its outlines", 516, () -> x.at(8) * 256 + x.at(9));
        CHECK.answers("its last byte", 6, () -> x.at(703));
    }
}
