import java.util.List;
import java.util.function.Consumer;

/** Promises 1 to 6, 15 and 16: a new object, glyph, contour, point, table, clear, count, outline. */
public final class FontTest {
    private static final Check CHECK = new Check();

    public static void main(String[] args) {
        newObject();
        glyph();
        contour();
        point();
        table();
        clear();
        count();
        outline();
        CHECK.finish();
    }

    private static void newObject() {
        CHECK.sentence("Promise 1", "A font without glyphs and tables", FontTest::beginsWithoutGlyphs);
        CHECK.sentence("Promise 1", "an empty buffer", FontTest::beginsWithAnEmptyBuffer);
        CHECK.sentence("Terms", "both are there when there is a glyph", FontTest::hasTablesOfGlyphs);
        CHECK.sentence("Terms", "there when they are not empty", FontTest::hasTablesThatAreNotEmpty);
        CHECK.sentence("What it is", "at most 512 calls after it has been made", FontTest::answersTheLastCall);
    }

    private static void glyph() {
        CHECK.sentence("Promise 2", "A new glyph: its number", FontTest::numbersGlyphs);
        CHECK.sentence("Terms", "an ADVANCE 0 .. 2000", FontTest::takesAllAdvances);
        CHECK.sentence("Promise 2", "advance is not as said", FontTest::refusesAdvances);
        CHECK.sentence("Promise 2", "there are 6", FontTest::refusesASeventhGlyph);
        CHECK.sentence("Promise 2", "or the latest contour has no points", FontTest::refusesAGlyph);
        CHECK.sentence("Promise 2", "IllegalArgumentException: advance is not as said; IllegalStateException",
                FontTest::looksAtTheAdvanceFirst);
    }

    private static void contour() {
        CHECK.sentence("Promise 3", "A new contour of the latest glyph: its number", FontTest::numbersContours);
        CHECK.sentence("Promise 3", "there is no glyph", FontTest::refusesAContourWithoutAGlyph);
        CHECK.sentence("Promise 3", "it has 4 contours", FontTest::refusesAFifthContour);
        CHECK.sentence("Promise 3", "or 16 points", FontTest::refusesAContourBehindSixteenPoints);
        CHECK.sentence("Promise 3", "or its latest contour has no points", FontTest::refusesAContour);
    }

    private static void point() {
        CHECK.sentence("Promise 4", "its number in the glyph", FontTest::numbersPoints);
        CHECK.sentence("Promise 4", "of the latest contour of the latest glyph", FontTest::addsToTheLatestContour);
        CHECK.sentence("Terms", "a point has x and y from -4000 to 4000", FontTest::takesTheFarthestPoints);
        CHECK.sentence("Promise 4", "x or y is not as said", FontTest::refusesPointsTooFar);
        CHECK.sentence("Promise 4", "there is no glyph", FontTest::refusesAPointWithoutAGlyph);
        CHECK.sentence("Promise 4", "or it has no contour", FontTest::refusesAPointWithoutAContour);
        CHECK.sentence("Promise 4", "or 16 points", FontTest::refusesASeventeenthPoint);
        CHECK.sentence("Promise 4", "IllegalArgumentException: x or y is not as said; IllegalStateException",
                FontTest::looksAtThePointFirst);
    }

    private static void table() {
        CHECK.sentence("Promise 5", "n bytes (1 .. 8) more in a table 2 .. 6", FontTest::addsBytes);
        CHECK.sentence("Promise 5", "the lowest of bytes, the highest of these first", FontTest::ordersBytes);
        CHECK.sentence("Promise 5", "its length", FontTest::tellsEachLength);
        CHECK.sentence("Promise 5", "table .. is not as said", FontTest::refusesTables);
        CHECK.sentence("Promise 5", "n is not as said", FontTest::refusesNumbersOfBytes);
        CHECK.sentence("Promise 5", "it would have more than 20", FontTest::refusesMoreThanTwenty);
        CHECK.sentence("Promise 5", "IllegalArgumentException: table or n is not as said; IllegalStateException",
                FontTest::looksAtTableAndNumberFirst);
    }

    private static void clear() {
        CHECK.sentence("Promise 6", "The font has no glyphs .. any more", FontTest::clearsGlyphs);
        CHECK.sentence("Promise 6", "no glyphs and tables any more", FontTest::leavesNothingBehind);
        CHECK.sentence("Promise 6", "and tables any more", FontTest::clearsTables);
        CHECK.sentence("Promise 6", "The font", FontTest::clearsTheFontAlone);
    }

    private static void count() {
        CHECK.sentence("Promise 15", "How many glyphs there are (g = -1)", FontTest::countsGlyphs);
        CHECK.sentence("Promise 15", "or points glyph g has", FontTest::countsPoints);
        CHECK.sentence("Promise 15", "there is no such glyph", FontTest::refusesToCount);
    }

    private static void outline() {
        CHECK.sentence("Promise 16", "what 0 x, 1 y, 2 whether it is on (1, else 0), 3 its contour",
                FontTest::tellsPoints);
        CHECK.sentence("Promise 16", "there is no such glyph", FontTest::refusesGlyphsOfOutlines);
        CHECK.sentence("Promise 16", "or what", FontTest::refusesWhat);
        CHECK.sentence("Promise 16", "no such point", FontTest::refusesPointsOfOutlines);
        CHECK.sentence("Promise 16",
                "IllegalArgumentException: there is no such glyph or what; IndexOutOfBoundsException",
                FontTest::looksAtGlyphAndWhatFirst);
    }

    private static void glyphs(FontPacker x, int n) {
        for (int g = 0; g < n; g++) {
            x.glyph(100 + g);
        }
    }

    /** So many contours of one point each, in the latest glyph. */
    private static void contours(FontPacker x, int n) {
        for (int c = 0; c < n; c++) {
            x.contour();
            x.point(c, -c, true);
        }
    }

    private static void points(FontPacker x, int n) {
        for (int p = 0; p < n; p++) {
            x.point(p, -p, p % 2 == 0);
        }
    }

    private static void fullGlyph(FontPacker x) {
        Samples.emptyContour(x);
        points(x, 16);
    }

    private static void bytes(FontPacker x, int table, int n) {
        for (int k = 0; k < n; k++) {
            x.table(table, 0x50 + k, 1);
        }
    }

    private static void beginsWithoutGlyphs() {
        FontPacker x = new FontPacker();
        CHECK.answers("glyphs", 0, () -> x.count(-1));
        CHECK.answers("plain", 1, x::plain);
        CHECK.buffer("plain", x, 0);
        for (int t = 2; t <= 6; t++) {
            int table = t;
            CHECK.answers("the first length of table " + t, 1, () -> new FontPacker().table(table, 0, 1));
        }
        FontPacker other = new FontPacker();
        Samples.something(other);
        CHECK.answers("glyphs beside another object", 0, () -> new FontPacker().count(-1));
        CHECK.answers("plain beside another object", 1, () -> new FontPacker().plain());
    }

    private static void beginsWithAnEmptyBuffer() {
        CHECK.answers("length", 0, () -> new FontPacker().at(-1));
        CHECK.badIndex("the first byte", Samples::nothing, x -> x.at(0));
        CHECK.badArgument("more than none of it", Samples::nothing, x -> x.cut(1));
        CHECK.answers("the first put", 1, () -> new FontPacker().put(0, 1));
        FontPacker other = new FontPacker();
        Samples.something(other);
        CHECK.answers("length beside another object", 0, () -> new FontPacker().at(-1));
    }

    /** How many tables there are, as the plain and the packed font say it and as reading counts them. */
    private static void tables(String what, int want, Consumer<FontPacker> build) {
        FontPacker x = Check.made(build);
        x.plain();
        CHECK.answers(what + ": plain", want, () -> x.at(0));
        x.pack();
        CHECK.answers(what + ": packed", want, () -> x.at(2));
        CHECK.answers(what + ": read", want, x::read);
    }

    private static void hasTablesOfGlyphs() {
        tables("no glyph", 0, Samples::nothing);
        tables("one glyph without contours", 2, x -> x.glyph(0));
        tables("six glyphs", 2, x -> glyphs(x, 6));
        tables("one with an outline", 2, Samples::oneGlyph);
        tables("cleared", 0, x -> {
            x.glyph(0);
            x.clear();
        });
    }

    private static void hasTablesThatAreNotEmpty() {
        for (int t = 2; t <= 6; t++) {
            int table = t;
            tables("one byte 0 in table " + t, 1, x -> x.table(table, 0, 1));
            tables("a refused byte for table " + t, 0, x -> {
                CHECK.fails("no byte", IllegalArgumentException.class, () -> x.table(table, 0, 0));
            });
            tables("table " + t + " beside a glyph", 3, x -> {
                x.glyph(0);
                x.table(table, 0, 1);
            });
        }
        tables("all", 7, Samples::largest);
    }

    private static void answersTheLastCall() {
        FontPacker x = new FontPacker();
        Samples.oneGlyph(x);
        int calls = 5;
        while (calls < 509) {
            x.pack();
            x.read();
            x.plain();
            calls += 3;
        }
        CHECK.due("calls", calls, 509);
        CHECK.answers("call 510", 35, x::plain);
        CHECK.answers("call 511", 23, x::pack);
        CHECK.answers("call 512", 2, x::read);

        FontPacker y = new FontPacker();
        Samples.largest(y);
        for (calls = 6 * 21 + 15; calls < 511; calls++) {
            y.pack();
        }
        CHECK.answers("call 512 with the largest font", 704, y::plain);
    }

    private static void numbersGlyphs() {
        FontPacker x = new FontPacker();
        for (int g = 0; g < 6; g++) {
            CHECK.answers("glyph " + g, g, () -> x.glyph(7));
        }
        x.clear();
        CHECK.answers("the first behind a clear", 0, () -> x.glyph(7));
    }

    private static void takesAllAdvances() {
        int[] advances = {0, 1, 255, 256, 1999, 2000};
        FontPacker x = new FontPacker();
        for (int advance : advances) {
            x.glyph(advance);
        }
        x.plain();
        for (int g = 0; g < 6; g++) {
            CHECK.bytes("advance " + advances[g], x, 19 + 4 * g, advances[g] / 256, advances[g] % 256);
        }
    }

    private static void refusesAdvances() {
        for (int advance : Check.join(Check.row(-1, -2000, 2001, 2002, 4000), Samples.FAR_AWAY)) {
            CHECK.badArgument("advance " + advance, Samples::something, x -> x.glyph(advance));
        }
    }

    private static void refusesASeventhGlyph() {
        CHECK.answers("a sixth", 5, () -> {
            FontPacker x = new FontPacker();
            glyphs(x, 5);
            return x.glyph(0);
        });
        CHECK.badState("a seventh", x -> glyphs(x, 6), x -> x.glyph(0));
        CHECK.badState("a seventh behind one with points", Samples::largest, x -> x.glyph(0));
        CHECK.badState("a seventh behind six that were read", x -> {
            glyphs(x, 6);
            x.pack();
            x.clear();
            x.read();
        }, x -> x.glyph(0));
    }

    private static void refusesAGlyph() {
        CHECK.badState("a contour alone", Samples::emptyContour, x -> x.glyph(0));
        CHECK.badState("a contour behind another", Samples::emptyContourBehindAnother, x -> x.glyph(0));
        CHECK.badState("a contour in the fifth glyph", x -> {
            glyphs(x, 4);
            Samples.emptyContour(x);
        }, x -> x.glyph(0));
        CHECK.answers("a glyph behind no contour", 1, () -> {
            FontPacker x = new FontPacker();
            x.glyph(0);
            return x.glyph(0);
        });
        CHECK.answers("a glyph behind a contour of one point", 1, () -> {
            FontPacker x = new FontPacker();
            Samples.emptyContour(x);
            x.point(0, 0, true);
            return x.glyph(0);
        });
    }

    private static void looksAtTheAdvanceFirst() {
        CHECK.badArgument("a seventh glyph", x -> glyphs(x, 6), x -> x.glyph(2001));
        CHECK.badArgument("an empty contour", Samples::emptyContour, x -> x.glyph(-1));
    }

    private static void numbersContours() {
        FontPacker x = new FontPacker();
        for (int g = 0; g < 2; g++) {
            x.glyph(1);
            for (int c = 0; c < 4; c++) {
                CHECK.answers("contour " + c + " of glyph " + g, c, x::contour);
                x.point(c, c, true);
            }
        }
        CHECK.answers("the last contour of glyph 0", 3, () -> x.outline(0, 3, 3));
    }

    private static void refusesAContourWithoutAGlyph() {
        CHECK.badState("a new object", Samples::nothing, FontPacker::contour);
        CHECK.badState("tables alone", x -> x.table(2, 0, 1), FontPacker::contour);
        CHECK.badState("a cleared font", x -> {
            Samples.oneGlyph(x);
            x.clear();
        }, FontPacker::contour);
        CHECK.badState("a font without glyphs that was read", x -> {
            x.pack();
            Samples.oneGlyph(x);
            x.read();
        }, FontPacker::contour);
    }

    private static void refusesAFifthContour() {
        CHECK.badState("a fifth", x -> {
            x.glyph(0);
            contours(x, 4);
        }, FontPacker::contour);
        CHECK.badState("a fifth behind points enough", x -> {
            x.glyph(0);
            contours(x, 4);
            points(x, 11);
        }, FontPacker::contour);
        CHECK.answers("the first of the next glyph", 0, () -> {
            FontPacker x = new FontPacker();
            x.glyph(0);
            contours(x, 4);
            x.glyph(0);
            return x.contour();
        });
    }

    private static void refusesAContourBehindSixteenPoints() {
        CHECK.badState("16 points in one contour", FontTest::fullGlyph, FontPacker::contour);
        CHECK.badState("16 points in three contours", x -> {
            x.glyph(0);
            contours(x, 3);
            points(x, 13);
        }, FontPacker::contour);
        CHECK.answers("15 points in one contour", 1, () -> {
            FontPacker x = new FontPacker();
            Samples.emptyContour(x);
            points(x, 15);
            return x.contour();
        });
        CHECK.answers("16 points in the glyph before", 0, () -> {
            FontPacker x = new FontPacker();
            fullGlyph(x);
            x.glyph(0);
            return x.contour();
        });
    }

    private static void refusesAContour() {
        CHECK.badState("behind an empty one", Samples::emptyContour, FontPacker::contour);
        CHECK.badState("behind another and an empty one", Samples::emptyContourBehindAnother, FontPacker::contour);
        CHECK.badState("behind an empty fourth", x -> {
            x.glyph(0);
            contours(x, 3);
            x.contour();
        }, FontPacker::contour);
        CHECK.answers("behind one of one point", 1, () -> {
            FontPacker x = new FontPacker();
            x.glyph(0);
            contours(x, 1);
            return x.contour();
        });
    }

    private static void numbersPoints() {
        FontPacker x = new FontPacker();
        x.glyph(1);
        for (int p = 0; p < 16; p++) {
            if (p % 4 == 0) {
                x.contour();
            }
            CHECK.answers("point " + p, p, () -> x.point(0, 0, true));
        }
        x.glyph(2);
        x.contour();
        CHECK.answers("the first point of the next glyph", 0, () -> x.point(0, 0, true));
    }

    private static void addsToTheLatestContour() {
        FontPacker x = new FontPacker();
        x.glyph(1);
        contours(x, 2);
        x.glyph(2);
        contours(x, 3);
        x.point(7, 8, false);
        CHECK.answers("points of glyph 0", 2, () -> x.count(0));
        CHECK.answers("points of glyph 1", 4, () -> x.count(1));
        CHECK.answers("the contour", 2, () -> x.outline(1, 3, 3));
        x.pack();
        x.clear();
        x.read();
        CHECK.answers("a point behind those that were read", 4, () -> x.point(9, 9, false));
        CHECK.answers("its contour", 2, () -> x.outline(1, 4, 3));
    }

    private static void takesTheFarthestPoints() {
        FontPacker x = new FontPacker();
        Samples.emptyContour(x);
        int[][] points = {{-4000, -4000}, {-4000, 4000}, {4000, -4000}, {4000, 4000}, {-3999, 3999}, {0, 0}};
        for (int p = 0; p < points.length; p++) {
            int[] point = points[p];
            CHECK.answers("point " + point[0] + ", " + point[1], p, () -> x.point(point[0], point[1], true));
        }
        for (int p = 0; p < points.length; p++) {
            int number = p;
            CHECK.answers("x of point " + p, points[p][0], () -> x.outline(0, number, 0));
            CHECK.answers("y of point " + p, points[p][1], () -> x.outline(0, number, 1));
        }
    }

    private static void refusesPointsTooFar() {
        for (int far : Check.join(Check.row(-4001, 4001, -8000, 8000), Samples.FAR_AWAY)) {
            if (far == -257 || far == -256) {
                continue;
            }
            CHECK.badArgument("x " + far, Samples::emptyContour, x -> x.point(far, 0, true));
            CHECK.badArgument("y " + far, Samples::emptyContour, x -> x.point(0, far, true));
            CHECK.badArgument("x and y " + far, Samples::something, x -> x.point(far, far, false));
        }
    }

    private static void refusesAPointWithoutAGlyph() {
        CHECK.badState("a new object", Samples::nothing, x -> x.point(0, 0, true));
        CHECK.badState("a cleared font", x -> {
            Samples.emptyContour(x);
            x.clear();
        }, x -> x.point(0, 0, true));
    }

    private static void refusesAPointWithoutAContour() {
        CHECK.badState("one glyph", x -> x.glyph(0), x -> x.point(0, 0, true));
        CHECK.badState("a second glyph", x -> {
            Samples.oneGlyph(x);
            x.glyph(0);
        }, x -> x.point(0, 0, true));
        CHECK.badState("a glyph in the place of a cleared one", x -> {
            Samples.oneGlyph(x);
            x.clear();
            x.glyph(0);
        }, x -> x.point(0, 0, true));
    }

    private static void refusesASeventeenthPoint() {
        CHECK.badState("a seventeenth in one contour", FontTest::fullGlyph, x -> x.point(0, 0, true));
        CHECK.badState("a seventeenth in four contours", x -> {
            x.glyph(0);
            contours(x, 4);
            points(x, 12);
        }, x -> x.point(0, 0, true));
        CHECK.answers("a sixteenth", 15, () -> {
            FontPacker x = new FontPacker();
            Samples.emptyContour(x);
            points(x, 15);
            return x.point(0, 0, true);
        });
        FontPacker x = new FontPacker();
        for (int g = 0; g < 6; g++) {
            fullGlyph(x);
            int glyph = g;
            CHECK.answers("all points of glyph " + g, 16, () -> x.count(glyph));
        }
    }

    private static void looksAtThePointFirst() {
        CHECK.badArgument("no glyph", Samples::nothing, x -> x.point(4001, 0, true));
        CHECK.badArgument("no contour", x -> x.glyph(0), x -> x.point(0, -4001, true));
        CHECK.badArgument("16 points", FontTest::fullGlyph, x -> x.point(0, 4001, true));
    }

    private static void addsBytes() {
        for (int t = 2; t <= 6; t++) {
            FontPacker x = new FontPacker();
            x.table(t, 0xA1A2A3A4A5A6A7A8L, 8);
            x.table(t, 0xB1, 1);
            x.plain();
            CHECK.bytes("table " + t, x, 0, 1, t);
            CHECK.bytes("table " + t, x, 8, 0, 9, 0xA1, 0xA2, 0xA3, 0xA4, 0xA5, 0xA6, 0xA7, 0xA8, 0xB1, 0, 0, 0);
        }
    }

    private static void ordersBytes() {
        int[] all = {0xFF, 0x80, 0x7F, 0x01, 0x00, 0xFE, 0x81, 0x02};
        for (int n = 1; n <= 8; n++) {
            FontPacker x = new FontPacker();
            x.table(3, 0xFF807F0100FE8102L, n);
            x.plain();
            CHECK.bytes(n + " bytes: length", x, 8, 0, n);
            for (int k = 0; k < n; k++) {
                CHECK.bytes(n + " bytes", x, 10 + k, all[8 - n + k]);
            }
        }
        FontPacker y = new FontPacker();
        y.table(3, -1, 8);
        y.table(3, Long.MIN_VALUE, 8);
        y.plain();
        CHECK.bytes("-1 and the least long", y, 10, 255, 255, 255, 255, 255, 255, 255, 255, 128, 0, 0, 0, 0, 0, 0, 0);
    }

    private static void tellsEachLength() {
        FontPacker x = new FontPacker();
        for (int t = 2; t <= 6; t++) {
            int table = t;
            for (int k = 1; k <= t; k++) {
                CHECK.answers("table " + t, k, () -> x.table(table, 0, 1));
            }
            CHECK.answers("table " + t, t + 8, () -> x.table(table, 0, 8));
        }
        x.pack();
        x.clear();
        x.read();
        CHECK.answers("table 2 that was read", 11, () -> x.table(2, 0, 1));
    }

    private static void refusesTables() {
        for (int table : Check.join(Check.row(-1, 0, 1, 7, 8, 64, 66), Samples.FAR_AWAY)) {
            CHECK.badArgument("table " + table, Samples::something, x -> x.table(table, 1, 1));
        }
    }

    private static void refusesNumbersOfBytes() {
        for (int n : Check.join(Check.row(-8, -1, 0, 9, 16), Samples.FAR_AWAY)) {
            CHECK.badArgument("n " + n, Samples::something, x -> x.table(4, 1, n));
            CHECK.badArgument("n " + n + " in an empty table", Samples::nothing, x -> x.table(2, 1, n));
        }
    }

    private static void refusesMoreThanTwenty() {
        for (int n = 1; n <= 8; n++) {
            int more = n;
            CHECK.answers("20 with the latest " + n, 20, () -> {
                FontPacker x = new FontPacker();
                bytes(x, 5, 20 - more);
                return x.table(5, 0, more);
            });
            CHECK.badState("21 with the latest " + n, x -> bytes(x, 5, 21 - more), x -> x.table(5, 0, more));
            CHECK.badState(n + " more in a full table", x -> bytes(x, 5, 20), x -> x.table(5, 0, more));
        }
        for (int t = 2; t <= 6; t++) {
            int table = t;
            CHECK.badState("table " + t, x -> bytes(x, table, 20), x -> x.table(table, 0, 1));
            CHECK.answers("table " + t + " beside full ones", 8, () -> {
                FontPacker x = new FontPacker();
                for (int other = 2; other <= 6; other++) {
                    bytes(x, other, other == table ? 0 : 20);
                }
                return x.table(table, 0, 8);
            });
        }
    }

    private static void looksAtTableAndNumberFirst() {
        CHECK.badArgument("n in a full table", x -> bytes(x, 2, 20), x -> x.table(2, 0, 9));
        CHECK.badArgument("no byte more in a full table", x -> bytes(x, 2, 20), x -> x.table(2, 0, 0));
        CHECK.badArgument("no such table beside a full one", x -> bytes(x, 6, 20), x -> x.table(7, 0, 1));
    }

    private static void clearsGlyphs() {
        FontPacker x = new FontPacker();
        x.clear();
        CHECK.answers("a new font", 0, () -> x.count(-1));
        Samples.largest(x);
        x.clear();
        CHECK.answers("the largest font", 0, () -> x.count(-1));
        CHECK.answers("and plain", 1, x::plain);
        CHECK.answers("the first glyph", 0, () -> x.glyph(3));
        CHECK.answers("has no points", 0, () -> x.count(0));
        CHECK.answers("its first contour", 0, x::contour);
        x.clear();
        CHECK.answers("an empty contour is gone", 4, x::pack);
        x.clear();
        CHECK.answers("cleared again", 0, () -> x.count(-1));
        CHECK.same("as full as before", Check.fontBehind(y -> {
            Samples.largest(y);
            y.clear();
            Samples.largest(y);
        }), Check.fontBehind(Samples::largest));
    }

    private static void leavesNothingBehind() {
        Consumer<FontPacker> other = x -> {
            x.table(3, 7, 1);
            x.glyph(1);
            x.contour();
            x.point(5, 6, false);
            x.point(-7, 8, true);
            x.glyph(0);
        };
        for (Consumer<FontPacker> before : List.<Consumer<FontPacker>>of(Samples::largest, Samples::oneGlyph,
                Samples::emptyContour, Samples::emptyContourBehindAnother)) {
            Consumer<FontPacker> build = before.andThen(FontPacker::clear).andThen(other);
            CHECK.same("another font", Check.fontBehind(build), Check.fontBehind(other));
            FontPacker x = Check.made(build);
            CHECK.answers("its x", 5, () -> x.outline(0, 0, 0));
            CHECK.answers("its y", 6, () -> x.outline(0, 0, 1));
            CHECK.answers("whether it is on", 0, () -> x.outline(0, 0, 2));
            CHECK.answers("its contour", 0, () -> x.outline(0, 1, 3));
        }
    }

    private static void clearsTables() {
        for (int t = 2; t <= 6; t++) {
            int table = t;
            FontPacker x = new FontPacker();
            bytes(x, table, 20);
            x.clear();
            CHECK.answers("plain without table " + t, 1, x::plain);
            CHECK.answers("table " + t + " begins again", 8, () -> x.table(table, 0, 8));
        }
    }

    private static void clearsTheFontAlone() {
        FontPacker x = new FontPacker();
        Samples.something(x);
        x.clear();
        CHECK.buffer("the buffer", x, 1, 2, 3, 4, 5);
        CHECK.answers("the stage", 1, x::stage);
        x.pack();
        x.read();
        x.clear();
        CHECK.answers("the stage of a reading that did not fail", 0, x::stage);
    }

    private static void countsGlyphs() {
        FontPacker x = new FontPacker();
        CHECK.answers("none", 0, () -> x.count(-1));
        for (int g = 1; g <= 6; g++) {
            x.glyph(g);
            CHECK.answers("glyphs", g, () -> x.count(-1));
        }
    }

    private static void countsPoints() {
        FontPacker x = new FontPacker();
        x.glyph(1);
        CHECK.answers("no contour", 0, () -> x.count(0));
        x.contour();
        CHECK.answers("an empty contour", 0, () -> x.count(0));
        points(x, 1);
        x.contour();
        points(x, 15);
        for (int g = 1; g < 6; g++) {
            x.glyph(2);
            contours(x, g - 1);
        }
        int[] want = {16, 0, 1, 2, 3, 4};
        for (int g = 0; g < 6; g++) {
            int glyph = g;
            CHECK.answers("points of glyph " + g, want[g], () -> x.count(glyph));
        }
    }

    private static void refusesToCount() {
        for (int g : Check.join(Check.row(-3, -2, 1, 2, 5, 6), Samples.FAR_AWAY)) {
            CHECK.badArgument("glyph " + g + " of one", Samples::something, x -> x.count(g));
        }
        CHECK.badArgument("glyph 0 of none", Samples::nothing, x -> x.count(0));
        CHECK.badArgument("glyph 6 of six", x -> glyphs(x, 6), x -> x.count(6));
        CHECK.badArgument("glyph 0 that was cleared", x -> {
            Samples.oneGlyph(x);
            x.clear();
        }, x -> x.count(0));
    }

    private static void tellsPoints() {
        FontPacker x = new FontPacker();
        x.glyph(1);
        x.glyph(2);
        x.contour();
        x.point(-7, 8, true);
        x.point(9, -10, false);
        x.contour();
        x.point(11, 12, false);
        x.contour();
        x.point(0, 14, true);
        x.contour();
        points(x, 12);
        int[][] want = {{-7, 8, 1, 0}, {9, -10, 0, 0}, {11, 12, 0, 1}, {0, 14, 1, 2}, {0, 0, 1, 3}};
        for (int p = 0; p < want.length; p++) {
            tellsPoint(x, p, want[p]);
        }
        tellsPoint(x, 15, Check.row(11, -11, 0, 3));
    }

    private static void tellsPoint(FontPacker x, int p, int... want) {
        for (int k = 0; k < 4; k++) {
            int what = k;
            CHECK.answers("outline(1, " + p + ", " + k + ")", want[k], () -> x.outline(1, p, what));
        }
    }

    private static void refusesGlyphsOfOutlines() {
        for (int g : Check.join(Check.row(-2, -1, 1, 2, 6), Samples.FAR_AWAY)) {
            CHECK.badArgument("glyph " + g + " of one", Samples::something, x -> x.outline(g, 0, 0));
        }
        CHECK.badArgument("glyph 0 of none", Samples::nothing, x -> x.outline(0, 0, 0));
        CHECK.badArgument("glyph 6 of six", Samples::largest, x -> x.outline(6, 0, 0));
    }

    private static void refusesWhat() {
        for (int what : Check.join(Check.row(-1, 4, 5), Samples.FAR_AWAY)) {
            CHECK.badArgument("what " + what, Samples::something, x -> x.outline(0, 0, what));
        }
    }

    private static void refusesPointsOfOutlines() {
        for (int p : Check.join(Check.row(-1, 3, 4, 15, 16), Samples.FAR_AWAY)) {
            for (int k = 0; k < 4; k++) {
                int what = k;
                CHECK.badIndex("point " + p + " of three", Samples::oneGlyph, x -> x.outline(0, p, what));
            }
        }
        CHECK.badIndex("point 0 of a glyph without contours", x -> x.glyph(0), x -> x.outline(0, 0, 0));
        CHECK.badIndex("point 0 of an empty contour", Samples::emptyContour, x -> x.outline(0, 0, 3));
        CHECK.badIndex("point 16 of 16", FontTest::fullGlyph, x -> x.outline(0, 16, 0));
        CHECK.badIndex("a point of the glyph before", x -> {
            Samples.oneGlyph(x);
            x.glyph(0);
            contours(x, 1);
        }, x -> x.outline(1, 1, 0));
    }

    private static void looksAtGlyphAndWhatFirst() {
        CHECK.badArgument("no glyph and no point", Samples::oneGlyph, x -> x.outline(1, 3, 0));
        CHECK.badArgument("no what and no point", Samples::oneGlyph, x -> x.outline(0, 3, 4));
        CHECK.badArgument("none of them", Samples::oneGlyph, x -> x.outline(-1, -1, -1));
    }
}
