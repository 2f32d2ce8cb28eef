/** Promises 1 to 6, 15 and 16: a new object, glyph, contour, point, table, clear, count, outline. */
public final class BuildTest {
    private static final Check CHECK = new Check();

    public static void main(String[] args) {
        isNew();
        addsGlyphs();
        addsContours();
        addsPoints();
        takesSixteenPoints();
        addsToTables();
        clears();
        counts();
        tellsOutlines();
        growsWhatWasRead();
        CHECK.finish();
    }

    private static void isNew() {
        FontPacker x = new FontPacker();
        CHECK.answers("glyphs of a new font", 0, () -> x.count(-1));
        CHECK.answers("bytes of a new buffer", 0, () -> x.at(-1));
        CHECK.answers("stage of a new object", 0, x::stage);
        for (int t = 2; t <= 6; t++) {
            int table = t;
            FontPacker y = new FontPacker();
            CHECK.answers("a new table " + t, 1, () -> y.table(table, 0, 1));
        }
        CHECK.answers("a new font, plain", 1, x::plain);
        CHECK.buffer("a new font, plain", x, 0);
        CHECK.answers("a new font, packed", 4, x::pack);
        CHECK.buffer("a new font, packed", x, 119, 50, 0, 0);
    }

    private static void addsGlyphs() {
        FontPacker x = new FontPacker();
        CHECK.badArgument("advance -1", () -> x.glyph(-1));
        CHECK.badArgument("advance 2001", () -> x.glyph(2001));
        CHECK.badArgument("the least advance", () -> x.glyph(Integer.MIN_VALUE));
        CHECK.answers("glyph 0", 0, () -> x.glyph(0));
        CHECK.answers("glyph 1", 1, () -> x.glyph(2000));
        x.contour();
        CHECK.badState("glyph behind an empty contour", () -> x.glyph(5));
        CHECK.badArgument("the advance is looked at first", () -> x.glyph(2001));
        CHECK.answers("glyphs behind refused ones", 2, () -> x.count(-1));
        x.point(0, 0, true);
        for (int g = 2; g < 6; g++) {
            CHECK.answers("glyph " + g, g, () -> x.glyph(7));
        }
        CHECK.badState("a seventh glyph", () -> x.glyph(7));
        CHECK.badArgument("a seventh glyph with a bad advance", () -> x.glyph(-7));
        CHECK.answers("all glyphs", 6, () -> x.count(-1));
    }

    private static void addsContours() {
        FontPacker x = new FontPacker();
        CHECK.badState("contour without a glyph", x::contour);
        x.glyph(1);
        for (int c = 0; c < 4; c++) {
            CHECK.answers("contour " + c, c, x::contour);
            CHECK.badState("contour behind the empty one " + c, x::contour);
            x.point(c, c, true);
        }
        CHECK.badState("a fifth contour", x::contour);
        x.glyph(1);
        CHECK.answers("the first contour of the next glyph", 0, x::contour);
        for (int p = 0; p < 15; p++) {
            x.point(p, 0, true);
        }
        CHECK.answers("a contour behind 15 points", 1, x::contour);
        x.point(0, 0, true);
        CHECK.badState("a contour behind 16 points", x::contour);
    }

    private static void addsPoints() {
        FontPacker x = new FontPacker();
        CHECK.badState("point without a glyph", () -> x.point(0, 0, true));
        CHECK.badArgument("x is looked at first", () -> x.point(4001, 0, true));
        x.glyph(1);
        CHECK.badState("point without a contour", () -> x.point(0, 0, true));
        x.contour();
        CHECK.badArgument("x 4001", () -> x.point(4001, 0, true));
        CHECK.badArgument("x -4001", () -> x.point(-4001, 0, true));
        CHECK.badArgument("y 4001", () -> x.point(0, 4001, true));
        CHECK.badArgument("y -4001", () -> x.point(0, -4001, true));
        CHECK.badArgument("the least x", () -> x.point(Integer.MIN_VALUE, 0, true));
        CHECK.answers("no point was taken", 0, () -> x.count(0));
        CHECK.answers("point 0", 0, () -> x.point(4000, -4000, true));
        CHECK.answers("point 1", 1, () -> x.point(-4000, 4000, false));
        x.contour();
        CHECK.answers("points are counted in the glyph", 2, () -> x.point(1, 2, false));
        x.glyph(2);
        CHECK.badState("point in a glyph without a contour", () -> x.point(0, 0, true));
        x.contour();
        CHECK.answers("the first point of the next glyph", 0, () -> x.point(0, 0, true));
    }

    private static void takesSixteenPoints() {
        FontPacker x = new FontPacker();
        x.glyph(1);
        x.contour();
        for (int p = 0; p < 16; p++) {
            int number = p;
            CHECK.answers("point " + p, p, () -> x.point(number, -number, number % 2 == 0));
        }
        CHECK.badState("a seventeenth point", () -> x.point(0, 0, true));
        CHECK.badArgument("a seventeenth point too far", () -> x.point(0, 5000, true));
        CHECK.answers("all points", 16, () -> x.count(0));
        CHECK.answers("the last point", -15, () -> x.outline(0, 15, 1));
    }

    private static void addsToTables() {
        FontPacker x = new FontPacker();
        CHECK.badArgument("table 1", () -> x.table(1, 0, 1));
        CHECK.badArgument("table 0", () -> x.table(0, 0, 1));
        CHECK.badArgument("table -1", () -> x.table(-1, 0, 1));
        CHECK.badArgument("table 7", () -> x.table(7, 0, 1));
        CHECK.badArgument("no byte", () -> x.table(2, 0, 0));
        CHECK.badArgument("nine bytes", () -> x.table(2, 0, 9));
        CHECK.badArgument("-1 bytes", () -> x.table(2, 0, -1));
        CHECK.answers("table 3", 8, () -> x.table(3, 0xFFEEDDCCBBAA9988L, 8));
        CHECK.answers("table 3 goes on", 10, () -> x.table(3, 0x112233, 2));
        CHECK.answers("table 6 has its own bytes", 1, () -> x.table(6, 0x1FF, 1));
        CHECK.answers("table 3 up to 18", 18, () -> x.table(3, 0, 8));
        CHECK.badState("table 3 beyond 20", () -> x.table(3, 0, 3));
        CHECK.badArgument("n is looked at first", () -> x.table(3, 0, 9));
        CHECK.answers("table 3 up to 20", 20, () -> x.table(3, 0x7FF, 2));
        CHECK.badState("table 3 is full", () -> x.table(3, 0, 1));
        x.plain();
        int[] bytes = Check.bytesOf(x);
        int[] want = {0xFF, 0xEE, 0xDD, 0xCC, 0xBB, 0xAA, 0x99, 0x88, 0x22, 0x33,
            0, 0, 0, 0, 0, 0, 0, 0, 7, 255, 255, 0, 0, 0};
        for (int k = 0; k < want.length; k++) {
            CHECK.due("byte " + k + " of tables 3 and 6", bytes[19 + k], want[k]);
        }
    }

    private static void clears() {
        FontPacker x = new FontPacker();
        x.clear();
        CHECK.answers("a new font is cleared", 0, () -> x.count(-1));
        x.glyph(1);
        x.contour();
        x.point(3, 4, true);
        x.contour();
        x.table(2, 5, 1);
        x.put(0x0102, 2);
        x.clear();
        CHECK.answers("no glyphs", 0, () -> x.count(-1));
        CHECK.buffer("the buffer is left", x, 1, 2);
        CHECK.badState("no glyph for a contour", x::contour);
        CHECK.badArgument("no glyph 0", () -> x.count(0));
        CHECK.answers("the empty contour is gone", 1, x::plain);
        CHECK.answers("the table is empty", 1, () -> x.table(2, 6, 1));
        CHECK.answers("glyphs begin at 0", 0, () -> x.glyph(2));
        CHECK.answers("the new glyph has no points", 0, () -> x.count(0));
        CHECK.badState("the new glyph has no contour", () -> x.point(0, 0, true));
        x.cut(0);
        CHECK.badArgument("an empty buffer", x::read);
        x.clear();
        CHECK.answers("the stage is left", 1, x::stage);
    }

    private static void counts() {
        FontPacker x = new FontPacker();
        CHECK.badArgument("count of no glyph", () -> x.count(0));
        CHECK.badArgument("count of -2", () -> x.count(-2));
        x.glyph(1);
        x.glyph(2);
        x.contour();
        x.point(0, 0, true);
        x.contour();
        x.point(0, 0, true);
        x.point(0, 0, true);
        CHECK.answers("glyphs", 2, () -> x.count(-1));
        CHECK.answers("points of glyph 0", 0, () -> x.count(0));
        CHECK.answers("points of glyph 1", 3, () -> x.count(1));
        CHECK.badArgument("count of glyph 2", () -> x.count(2));
        CHECK.badArgument("count of glyph 6", () -> x.count(6));
        CHECK.badArgument("count of the least int", () -> x.count(Integer.MIN_VALUE));
    }

    private static void tellsOutlines() {
        FontPacker x = new FontPacker();
        CHECK.badArgument("outline of no glyph", () -> x.outline(0, 0, 0));
        x.glyph(1);
        x.contour();
        x.point(-7, 8, true);
        x.point(9, -10, false);
        x.contour();
        x.point(11, 12, false);
        x.contour();
        x.point(13, 14, true);
        int[][] want = {{-7, 8, 1, 0}, {9, -10, 0, 0}, {11, 12, 0, 1}, {13, 14, 1, 2}};
        for (int p = 0; p < want.length; p++) {
            for (int what = 0; what < 4; what++) {
                int point = p;
                int asked = what;
                CHECK.answers("outline(0, " + p + ", " + what + ")", want[p][what],
                        () -> x.outline(0, point, asked));
            }
        }
        CHECK.badIndex("point 4", () -> x.outline(0, 4, 0));
        CHECK.badIndex("point -1", () -> x.outline(0, -1, 3));
        CHECK.badArgument("what 4", () -> x.outline(0, 0, 4));
        CHECK.badArgument("what -1", () -> x.outline(0, 0, -1));
        CHECK.badArgument("glyph 1", () -> x.outline(1, 0, 0));
        CHECK.badArgument("glyph -1", () -> x.outline(-1, 0, 0));
        CHECK.badArgument("what is looked at before the point", () -> x.outline(0, 4, 4));
        CHECK.badArgument("the glyph is looked at before the point", () -> x.outline(1, 4, 0));
    }

    private static void growsWhatWasRead() {
        FontPacker x = new FontPacker();
        x.glyph(1);
        x.glyph(2);
        x.contour();
        x.point(5, 6, true);
        x.table(5, 1, 2);
        x.pack();
        x.clear();
        x.read();
        CHECK.answers("a point of the contour that was read", 1, () -> x.point(7, 8, false));
        CHECK.answers("it is of that contour", 0, () -> x.outline(1, 1, 3));
        CHECK.answers("a contour behind the one that was read", 1, x::contour);
        CHECK.badState("which has no points", x::pack);
        CHECK.answers("it gets one", 2, () -> x.point(0, 0, false));
        CHECK.answers("a glyph behind those that were read", 2, () -> x.glyph(3));
        CHECK.answers("bytes behind those that were read", 4, () -> x.table(5, 1, 2));
    }
}
