import java.util.ArrayList;
import java.util.Arrays;
import java.util.List;

/** Promise 7, and with it the numbers, the transformed tables, the compressed bits and the packed font. */
public final class PackTest {
    private static final Check CHECK = new Check();

    public static void main(String[] args) {
        writesOneGlyph();
        writesShortNumbers();
        writesLongNumbers();
        writesSteps();
        writesOutlinesInOrder();
        writesBytesThatDoNotRepeat();
        writesRowsThatRepeat();
        repeatsAcrossTables();
        writesTheLargest();
        Samples.emptyContours(CHECK, FontPacker::pack, 10 + 13);
        CHECK.finish();
    }

    private static void writesOneGlyph() {
        FontPacker x = new FontPacker();
        Samples.oneGlyph(x);
        CHECK.answers("one glyph", 23, x::pack);
        int[] want = Check.join(Check.row(119, 50, 2, 64, 10, 9, 65, 4, 2, 11),
                Check.bits(Check.literal(1, 1, 3, 11, 131, 12, 10, 44, 254, 254, 94)));
        CHECK.buffer("one glyph", x, want);
        x.put(5, 1);
        CHECK.answers("the same again", 23, x::pack);
        CHECK.buffer("the same again", x, want);
        CHECK.answers("the font is left", 3, () -> x.count(0));
    }

    /** The stream behind the head, which ends at the place. */
    private static List<Integer> streamOf(FontPacker x, int place, int length) {
        List<Integer> bytes = new ArrayList<>();
        for (int b : Check.bytesOf(x)) {
            bytes.add(b);
        }
        return Reference.expand(bytes.subList(place, bytes.size()), length);
    }

    private static void list(String what, List<Integer> got, Integer... want) {
        CHECK.due(what + ": " + got + " is " + Arrays.asList(want), got.equals(Arrays.asList(want)) ? 1 : 0, 1);
    }

    private static void writesShortNumbers() {
        int[] advances = {252, 253, 505, 506, 761, 762};
        FontPacker x = new FontPacker();
        for (int advance : advances) {
            x.glyph(advance);
        }
        x.pack();
        CHECK.due("length of the advances in the stream", x.at(8), 12);
        list("short numbers", streamOf(x, 10, 19), 6, 0, 0, 0, 0, 0, 0,
                252, 255, 0, 255, 252, 254, 0, 254, 255, 253, 2, 250);
        x.clear();
        x.glyph(0);
        x.glyph(2000);
        x.pack();
        list("0 and 2000", streamOf(x, 10, 7), 2, 0, 0, 0, 253, 7, 208);
    }

    /** Two glyphs of 62 plain bytes and one of 4 have 128 together, the least that needs two bytes. */
    private static void writesLongNumbers() {
        FontPacker x = new FontPacker();
        for (int g = 0; g < 2; g++) {
            x.glyph(0);
            x.contour();
            for (int p = 0; p < 12; p++) {
                int far = p % 2 == 0 ? 1000 : -1000;
                x.point(far, far, p % 2 == 0);
            }
        }
        x.glyph(0);
        x.contour();
        x.point(0, 0, true);
        x.pack();
        list("a long number of 128", List.of(x.at(3), x.at(4), x.at(5)), 64, 129, 0);
        x.clear();
        x.glyph(0);
        for (int t = 2; t <= 6; t++) {
            x.table(t, 1, 8);
            x.table(t, 2, 8);
            x.table(t, 3, 4);
        }
        x.pack();
        list("a long number of 103", List.of(x.at(9), x.at(10), x.at(17), x.at(18), x.at(19)), 2, 20, 6, 20, 103);
    }

    /** A glyph with a point that the step leads to from 0, 0 or, if that is too far, from another. */
    private static void step(int dx, int dy, boolean on, Integer... want) {
        FontPacker x = new FontPacker();
        x.glyph(0);
        x.contour();
        boolean far = Math.abs(dx) > 4000 || Math.abs(dy) > 4000;
        int fromX = far ? -dx / 2 : 0;
        int fromY = far ? -dy / 2 : 0;
        if (far) {
            x.point(fromX, fromY, true);
        }
        x.point(fromX + dx, fromY + dy, on);
        x.pack();
        List<Integer> stream = streamOf(x, 10, x.at(9));
        List<Integer> got = new ArrayList<>();
        int points = far ? 2 : 1;
        got.add(stream.get(3 + points - 1));
        int advanceAt = stream.size() - 1;
        got.addAll(stream.subList(advanceAt - (want.length - 1), advanceAt));
        list("step " + dx + ", " + dy, got, want);
    }

    private static void writesSteps() {
        step(0, 0, true, 1, 0);
        step(0, 0, false, 129, 0);
        step(0, -1, true, 0, 1);
        step(0, 255, true, 1, 255);
        step(0, 256, true, 3, 0);
        step(0, -1279, false, 128 + 8, 255);
        step(0, 1279, true, 9, 255);
        step(0, 1280, true, 123, 0, 5, 0);
        step(0, -1280, true, 121, 0, 5, 0);
        step(1, 0, true, 11, 1);
        step(-1, 0, true, 10, 1);
        step(256, 0, true, 13, 0);
        step(-1024, 0, true, 18, 0);
        step(1279, 0, true, 19, 255);
        step(-1279, 0, false, 128 + 18, 255);
        step(1280, 0, true, 123, 80, 0, 0);
        step(-1280, 0, true, 122, 80, 0, 0);
        step(1, 1, true, 23, 0);
        step(-1, -1, false, 148, 0);
        step(64, -64, true, 20 + 48 + 12 + 1, 255);
        step(-16, 17, true, 20 + 4 + 2, 240);
        step(17, 16, true, 20 + 16 + 3, 15);
        step(65, 1, true, 87, 64, 0);
        step(1, -65, true, 85, 0, 64);
        step(256, 257, true, 84 + 4 + 3, 255, 0);
        step(-257, 256, false, 128 + 84 + 12 + 2, 0, 255);
        step(-768, -768, true, 84 + 24 + 8, 255, 255);
        step(769, 1, true, 123, 48, 16, 1);
        step(-1, 769, true, 122, 0, 16 + 3, 1);
        step(4000, -3999, false, 128 + 121, 250, 15, 159);
        step(4095, -4095, true, 121, 255, 255, 255);
        step(4096, 0, true, 127, 16, 0, 0, 0);
        step(0, -4096, true, 125, 0, 0, 16, 0);
        step(-8000, 8000, false, 128 + 126, 31, 64, 31, 64);
    }

    private static void writesOutlinesInOrder() {
        FontPacker x = new FontPacker();
        x.glyph(1);
        x.contour();
        x.point(1, 1, true);
        x.point(1, 3, true);
        x.contour();
        x.point(2, 3, false);
        x.glyph(2);
        x.glyph(3);
        x.contour();
        x.point(100, 100, true);
        x.pack();
        list("three glyphs", streamOf(x, 10, x.at(9)),
                3, 2, 0, 1, 2, 1, 1, 23, 1, 139, 87, 0, 2, 1, 99, 99, 1, 2, 3);
        list("its head", List.of(x.at(2), x.at(3), x.at(4), x.at(5), x.at(6), x.at(7), x.at(8)),
                2, 64, 10 + 6, 16, 65, 12, 3);
    }

    private static void table(String what, String bits, int... bytes) {
        FontPacker x = new FontPacker();
        for (int b : bytes) {
            x.table(2, b, 1);
        }
        x.pack();
        CHECK.buffer(what, x, Check.join(
                Check.row(119, 50, 1, 2, bytes.length, bytes.length), Check.bits(bits)));
    }

    private static void writesBytesThatDoNotRepeat() {
        table("one byte", "0 11111111", 255);
        table("eight bytes fill nine", Check.literal(1, 2, 3, 4, 5, 6, 7, 8), 1, 2, 3, 4, 5, 6, 7, 8);
        table("two the same", Check.literal(1, 2, 1, 2), 1, 2, 1, 2);
        table("three zeros", Check.literal(0, 0, 0), 0, 0, 0);
    }

    private static void writesRowsThatRepeat() {
        table("four of the same", Check.literal(9) + "1 1 1", 9, 9, 9, 9);
        table("six of the same", Check.literal(9) + "1 011 1", 9, 9, 9, 9, 9, 9);
        table("three behind three", Check.literal(1, 2, 3) + "1 1 011", 1, 2, 3, 1, 2, 3);
        table("beyond the place", Check.literal(1, 2) + "1 010 010" + Check.literal(7),
                1, 2, 1, 2, 1, 2, 7);
        table("the longest, not the nearest",
                Check.literal(1, 2, 3, 4, 9) + "1 1 00101" + Check.literal(8) + "1 010 0001001",
                1, 2, 3, 4, 9, 1, 2, 3, 8, 1, 2, 3, 4);
        table("the nearest of the longest",
                Check.literal(1, 2, 3, 9) + "1 1 00100" + Check.literal(8) + "1 1 00100" + Check.literal(7),
                1, 2, 3, 9, 1, 2, 3, 8, 1, 2, 3, 7);
        table("the first place goes first",
                Check.literal(1, 2, 3, 2, 3, 4, 5) + "1 1 00111" + Check.literal(4, 5),
                1, 2, 3, 2, 3, 4, 5, 1, 2, 3, 4, 5);
        table("bytes within a row count for later ones",
                Check.literal(5) + "1 1 1" + Check.literal(6) + "1 010 00101", 5, 5, 5, 5, 6, 5, 5, 5, 5);
    }

    private static void repeatsAcrossTables() {
        FontPacker x = new FontPacker();
        x.table(3, 0x0102, 2);
        x.table(5, 0x0301, 2);
        x.table(6, 0x020304, 3);
        x.pack();
        CHECK.buffer("rows across tables", x, Check.join(Check.row(119, 50, 3, 3, 2, 5, 2, 6, 3, 7),
                Check.bits(Check.literal(1, 2, 3) + "1 1 011" + Check.literal(4))));
    }

    private static void writesTheLargest() {
        FontPacker x = new FontPacker();
        Samples.largest(x);
        int length = x.pack();
        // 31 for counts, 5 for a point, one less for the first of each glyph: 505; advances 18, tables 100
        list("its head", List.of(x.at(2), x.at(3), x.at(4), x.at(5), x.at(6), x.at(7), x.at(8), x.at(9), x.at(10)),
                7, 64, 128 + 4, 4, 128 + 3, 505 - 384, 65, 24, 18);
        list("its stream's length", List.of(x.at(21), x.at(22)), 128 + 4, 623 - 512);
        CHECK.answers("it is read", 7, x::read);
        CHECK.answers("and packed again", length, x::pack);
        CHECK.answers("and is plain", 704, x::plain);
    }
}
