import java.util.ArrayList;
import java.util.Arrays;
import java.util.List;
import java.util.function.Consumer;

/** Promise 7, and with it the numbers, the transformed tables, the compressed bits and the packed font. */
public final class PackTest {
    private static final Check CHECK = new Check();

    public static void main(String[] args) {
        numbers();
        transformed();
        steps();
        compressed();
        packed();
        CHECK.sentence("Promise 7", "The buffer becomes the packed font: its length", PackTest::becomesTheBuffer);
        CHECK.sentence("Promise 7", "the latest contour has no points", PackTest::refusesEmptyContours);
        CHECK.finish();
    }

    private static void numbers() {
        CHECK.sentence("Short", "as v when it is below 253", PackTest::writesShortNumbersOfOneByte);
        CHECK.sentence("Short", "up to 505 as 255 and v - 253", PackTest::writesShortNumbersBehind255);
        CHECK.sentence("Short", "up to 761 as 254 and v - 506", PackTest::writesShortNumbersBehind254);
        CHECK.sentence("Short", "otherwise as 253 and v in two bytes", PackTest::writesShortNumbersBehind253);
        CHECK.sentence("Long", "with 128 more in all but the last", PackTest::writesLongNumbers);
        CHECK.sentence("Long", "the first one is not 128", PackTest::writesLongNumbersWithoutZerosBefore);
    }

    private static void transformed() {
        CHECK.sentence("Transformed", "how many glyphs; for each how many contours", PackTest::countsContours);
        CHECK.sentence("Transformed", "for each contour of all how many points", PackTest::countsPoints);
        CHECK.sentence("Transformed", "for each point of all a SIGN byte; for each what belongs to that",
                PackTest::ordersSigns);
        CHECK.sentence("Transformed", "Table 1 is the advances as short numbers", PackTest::writesAdvances);
        CHECK.sentence("Transformed", "Other tables are as they are", PackTest::writesOtherTables);
        CHECK.sentence("Transformed", "The STREAM is all tables, one behind the other", PackTest::joinsTables);
    }

    private static void steps() {
        CHECK.sentence("Transformed", "o for 0 when the point is on, 128 when off", PackTest::marksPointsThatAreOff);
        CHECK.sentence("Transformed", "s for 1 when dx is not below 0 (else 0), t likewise for dy",
                PackTest::writesSignsOfZero);
        CHECK.sentence("Transformed", "dx is 0 and b below 1280", PackTest::writesStepsOfYAlone);
        CHECK.sentence("Transformed", "dy is 0 and a below 1280", PackTest::writesStepsOfXAlone);
        CHECK.sentence("Transformed", "a and b above 0 and below 65", PackTest::writesStepsInOneByte);
        CHECK.sentence("Transformed", "a and b above 0 and below 769", PackTest::writesStepsInTwoBytes);
        CHECK.sentence("Transformed", "a and b below 4096", PackTest::writesStepsInThreeBytes);
        CHECK.sentence("Transformed", "Otherwise: o + 124 + s + 2 t", PackTest::writesStepsInFourBytes);
        CHECK.sentence("Transformed", "the first of these that can be", PackTest::takesTheFirstWay);
    }

    private static void compressed() {
        CHECK.sentence("Compressed", "with zeros up to a whole byte at the end", PackTest::fillsTheLastByte);
        CHECK.sentence("Compressed", "when 3 or more bytes from there on stand in the same way",
                PackTest::writesRowsOfThree);
        CHECK.sentence("Compressed", "d from 1 on", PackTest::looksFromOneOn);
        CHECK.sentence("Compressed", "they may reach beyond the place", PackTest::looksBeyondThePlace);
        CHECK.sentence("Compressed", "for the longest such row (of n bytes)", PackTest::takesTheLongestRow);
        CHECK.sentence("Compressed", "of several with the least d", PackTest::takesTheLeastDistance);
        CHECK.sentence("Compressed", "and on behind these", PackTest::goesOnBehindRows);
        CHECK.sentence("Compressed", "otherwise 0, the byte's 8 bits", PackTest::writesBytes);
        CHECK.sentence("Compressed", "as many zeros as v has bits behind its highest 1, then v's bits from that on",
                PackTest::writesGammaNumbers);
    }

    private static void packed() {
        CHECK.sentence("Packed font", "119, 50; how many tables", PackTest::beginsFonts);
        CHECK.sentence("Packed font", "for each its number, + 64 for 0 and 1", PackTest::marksTables);
        CHECK.sentence("Packed font", "its length in the plain font as a long number", PackTest::tellsPlainLengths);
        CHECK.sentence("Packed font", "for 0 and 1 also its length in the stream", PackTest::tellsLengthsInTheStream);
        CHECK.sentence("Packed font", "how many bytes the stream has", PackTest::tellsTheStreamsLength);
    }

    /** The packed font. */
    private static void font(String what, Consumer<FontPacker> build, int... want) {
        List<Integer> due = new ArrayList<>();
        Arrays.stream(want).forEach(due::add);
        CHECK.same(what, packedOf(build), due);
    }

    private static List<Integer> packedOf(Consumer<FontPacker> build) {
        return Check.bufferBehind(build.andThen(FontPacker::pack));
    }

    /** The stream of a font whose head, which ends at the place, has only numbers of one byte. */
    private static List<Integer> streamOf(Consumer<FontPacker> build, int place) {
        List<Integer> bytes = packedOf(build);
        return Reference.expand(bytes.subList(place, bytes.size()), bytes.get(place - 1));
    }

    /** The stream of a font that has glyphs alone. */
    private static void stream(String what, Consumer<FontPacker> build, Integer... want) {
        CHECK.same(what, streamOf(build, 10), Arrays.asList(want));
    }

    private static void advance(int advance, Integer... want) {
        List<Integer> due = new ArrayList<>(List.of(1, 0));
        due.addAll(Arrays.asList(want));
        stream("advance " + advance, x -> x.glyph(advance), due.toArray(new Integer[0]));
        List<Integer> head = packedOf(x -> x.glyph(advance)).subList(0, 10);
        CHECK.same("the head with advance " + advance, head,
                List.of(119, 50, 2, 64, 0, 2, 65, 4, want.length, 2 + want.length));
    }

    private static void writesShortNumbersOfOneByte() {
        advance(0, 0);
        advance(1, 1);
        advance(251, 251);
        advance(252, 252);
    }

    private static void writesShortNumbersBehind255() {
        advance(253, 255, 0);
        advance(254, 255, 1);
        advance(255, 255, 2);
        advance(256, 255, 3);
        advance(504, 255, 251);
        advance(505, 255, 252);
    }

    private static void writesShortNumbersBehind254() {
        advance(506, 254, 0);
        advance(507, 254, 1);
        advance(508, 254, 2);
        advance(509, 254, 3);
        advance(760, 254, 254);
        advance(761, 254, 255);
    }

    private static void writesShortNumbersBehind253() {
        advance(762, 253, 2, 250);
        advance(767, 253, 2, 255);
        advance(768, 253, 3, 0);
        advance(1999, 253, 7, 207);
        advance(2000, 253, 7, 208);
    }

    /** A glyph with points at 0, 0, and bytes in tables 2 .. 6: the stream has 4 + 2 points + bytes. */
    private static void streamOfLength(FontPacker x, int points, int bytes) {
        x.glyph(0);
        x.contour();
        for (int p = 0; p < points; p++) {
            x.point(0, 0, true);
        }
        for (int k = 0; k < bytes; k++) {
            x.table(2 + k / 20, k, 1);
        }
    }

    private static void writesLongNumbers() {
        int[][] lengths = {{126, 126}, {127, 127}, {128, 129, 0}, {129, 129, 1}};
        for (int[] length : lengths) {
            List<Integer> font = packedOf(x -> streamOfLength(x, 14, length[0] - 32));
            for (int k = 1; k < length.length; k++) {
                CHECK.same("a stream of " + length[0], font.get(8 + 2 * 5 + k), length[k]);
            }
        }
        int[][] longer = {{254, 129, 126}, {255, 129, 127}, {256, 130, 0}};
        for (int[] length : longer) {
            List<Integer> font = packedOf(x -> longerStream(x, length[0] - 176));
            // The length of table 0 in the stream, which has 171 bytes, has two bytes as well.
            CHECK.same("a stream of " + length[0], font.subList(18, 20), List.of(length[1], length[2]));
        }
        List<Integer> outlines = packedOf(PackTest::outlinesOf128);
        CHECK.same("outlines of 128", outlines.subList(3, 6), List.of(64, 129, 0));
        List<Integer> largest = packedOf(Samples::largest);
        CHECK.same("outlines of 516, and of 505 in the stream", largest.subList(3, 8),
                List.of(64, 128 + 4, 4, 128 + 3, 505 - 384));
        CHECK.same("a stream of 623", largest.subList(21, 23), List.of(128 + 4, 623 - 512));
    }

    /** Five glyphs with all their points at 0, 0, and bytes in tables 2 .. 5: the stream has 176 + bytes. */
    private static void longerStream(FontPacker x, int bytes) {
        for (int g = 0; g < 5; g++) {
            streamOfLength(x, 16, g == 0 ? bytes : 0);
        }
    }

    /** Two glyphs of 62 plain bytes and one of 4. */
    private static void outlinesOf128(FontPacker x) {
        for (int g = 0; g < 2; g++) {
            x.glyph(0);
            x.contour();
            for (int p = 0; p < 12; p++) {
                int far = p % 2 == 0 ? 1000 : -1000;
                x.point(far, far, p % 2 == 0);
            }
        }
        x.glyph(0);
        x.contour();
        x.point(0, 0, true);
    }

    private static void writesLongNumbersWithoutZerosBefore() {
        font("a length of 0", x -> x.glyph(7),
                Check.join(Check.row(119, 50, 2, 64, 0, 2, 65, 4, 1, 3), Check.bits(Check.literal(1, 0, 7))));
        font("a stream of 0", Samples::nothing, 119, 50, 0, 0);
        font("lengths of 1", x -> x.table(2, 9, 1), 119, 50, 1, 2, 1, 1, 9 >> 1, 128);
    }

    private static void countsContours() {
        stream("one without contours", x -> x.glyph(9), 1, 0, 9);
        stream("six, with none up to four", x -> {
            for (int g = 0; g < 6; g++) {
                x.glyph(9);
                for (int c = 0; c < g % 5; c++) {
                    x.contour();
                    x.point(0, 0, true);
                }
            }
        }, 6, 0, 1, 2, 3, 4, 0, 1, 1, 1, 1, 1, 1, 1, 1, 1, 1,
                1, 1, 1, 1, 1, 1, 1, 1, 1, 1, 0, 0, 0, 0, 0, 0, 0, 0, 0, 0, 9, 9, 9, 9, 9, 9);
    }

    private static void countsPoints() {
        stream("sixteen in one", x -> streamOfLength(x, 16, 0),
                1, 1, 16, 1, 1, 1, 1, 1, 1, 1, 1, 1, 1, 1, 1, 1, 1, 1, 1,
                0, 0, 0, 0, 0, 0, 0, 0, 0, 0, 0, 0, 0, 0, 0, 0, 0);
        stream("two and one", x -> {
            streamOfLength(x, 2, 0);
            x.contour();
            x.point(0, 0, true);
        }, 1, 2, 2, 1, 1, 1, 1, 0, 0, 0, 0);
    }

    private static void ordersSigns() {
        stream("three glyphs", x -> {
            x.glyph(1);
            x.contour();
            x.point(1, 1, true);
            x.point(1, 3, true);
            x.contour();
            x.point(2, 3, false);
            x.glyph(2);
            x.glyph(3);
            x.contour();
            x.point(100, 100, true);
        }, 3, 2, 0, 1, 2, 1, 1, 23, 1, 139, 87, 0, 2, 1, 99, 99, 1, 2, 3);
    }

    private static void writesAdvances() {
        stream("six", x -> {
            for (int advance : Check.row(252, 253, 505, 506, 761, 762)) {
                x.glyph(advance);
            }
        }, 6, 0, 0, 0, 0, 0, 0, 252, 255, 0, 255, 252, 254, 0, 254, 255, 253, 2, 250);
    }

    private static void writesOtherTables() {
        for (int t = 2; t <= 6; t++) {
            int table = t;
            font("table " + t, x -> x.table(table, 0xFDFEFF00L, 4), Check.join(
                    Check.row(119, 50, 1, t, 4, 4), Check.bits(Check.literal(253, 254, 255, 0))));
        }
    }

    private static void joinsTables() {
        List<Integer> want = new ArrayList<>(List.of(1, 0, 77));
        for (int t = 2; t <= 6; t++) {
            want.addAll(List.of(t * 10, t * 10 + 1));
        }
        CHECK.same("seven tables", streamOf(x -> {
            for (int t = 6; t >= 2; t--) {
                x.table(t, t * 10, 1);
                x.table(t, t * 10 + 1, 1);
            }
            x.glyph(77);
        }, 20), want);
    }

    /** A glyph with a point that the step leads to from 0, 0 or, if that is too far, from another. */
    private static void step(int dx, int dy, boolean on, Integer... want) {
        boolean far = Math.abs(dx) > 4000 || Math.abs(dy) > 4000;
        int fromX = far ? -dx / 2 : 0;
        int fromY = far ? -dy / 2 : 0;
        List<Integer> stream = streamOf(x -> {
            x.glyph(0);
            x.contour();
            if (far) {
                x.point(fromX, fromY, true);
            }
            x.point(fromX + dx, fromY + dy, on);
        }, 10);
        int advanceAt = stream.size() - 1;
        int details = want.length - 1;
        List<Integer> got = new ArrayList<>(List.of(stream.get(far ? 4 : 3)));
        got.addAll(stream.subList(advanceAt - details, advanceAt));
        CHECK.same("step " + dx + ", " + dy, got, Arrays.asList(want));
        if (!far) {
            CHECK.due("bytes of step " + dx + ", " + dy, stream.size(), 3 + want.length + 1);
        }
    }

    private static void marksPointsThatAreOff() {
        step(0, 1, true, 1, 1);
        step(0, 1, false, 129, 1);
        step(1, 0, true, 11, 1);
        step(1, 0, false, 139, 1);
        step(1, 1, true, 23, 0);
        step(1, 1, false, 151, 0);
        step(65, 65, true, 87, 64, 64);
        step(65, 65, false, 215, 64, 64);
        step(1000, 1000, true, 123, 62, 131, 232);
        step(1000, 1000, false, 251, 62, 131, 232);
        step(5000, 5000, true, 127, 19, 136, 19, 136);
        step(5000, 5000, false, 255, 19, 136, 19, 136);
    }

    private static void writesSignsOfZero() {
        step(0, 0, true, 1, 0);
        step(0, -1, true, 0, 1);
        step(0, -1280, true, 121, 0, 5, 0);
        step(0, 1280, true, 123, 0, 5, 0);
        step(-1280, 0, true, 122, 80, 0, 0);
        step(0, -4096, true, 125, 0, 0, 16, 0);
        step(-4096, 0, true, 126, 16, 0, 0, 0);
        step(-1, -1, true, 20, 0);
        step(1, -1, true, 21, 0);
        step(-1, 1, true, 22, 0);
    }

    private static void writesStepsOfYAlone() {
        step(0, 1, true, 1, 1);
        step(0, 255, true, 1, 255);
        step(0, 256, true, 3, 0);
        step(0, -511, true, 2, 255);
        step(0, -512, true, 4, 0);
        step(0, 767, true, 5, 255);
        step(0, 1024, true, 9, 0);
        step(0, -1279, false, 128 + 8, 255);
        step(0, 1279, true, 9, 255);
        step(0, 1280, true, 123, 0, 5, 0);
        step(0, -1280, true, 121, 0, 5, 0);
    }

    private static void writesStepsOfXAlone() {
        step(1, 0, true, 11, 1);
        step(-1, 0, true, 10, 1);
        step(255, 0, true, 11, 255);
        step(256, 0, true, 13, 0);
        step(-1024, 0, true, 18, 0);
        step(1279, 0, true, 19, 255);
        step(-1279, 0, false, 128 + 18, 255);
        step(1280, 0, true, 123, 80, 0, 0);
        step(-1280, 0, true, 122, 80, 0, 0);
    }

    private static void writesStepsInOneByte() {
        step(1, 1, true, 23, 0);
        step(-1, -1, false, 148, 0);
        step(64, -64, true, 20 + 48 + 12 + 1, 255);
        step(-64, 64, true, 20 + 48 + 12 + 2, 255);
        step(-16, 17, true, 20 + 4 + 2, 240);
        step(17, 16, true, 20 + 16 + 3, 15);
        step(32, 33, true, 20 + 16 + 8 + 3, 240);
        step(49, 48, true, 20 + 48 + 8 + 3, 15);
        step(64, 1, true, 20 + 48 + 3, 240);
        step(1, 64, true, 20 + 12 + 3, 15);
        step(65, 1, true, 87, 64, 0);
        step(1, 65, true, 87, 0, 64);
        step(-65, -64, true, 84, 64, 63);
    }

    private static void writesStepsInTwoBytes() {
        step(65, 1, true, 87, 64, 0);
        step(1, -65, true, 85, 0, 64);
        step(256, 257, true, 84 + 4 + 3, 255, 0);
        step(-257, 256, false, 128 + 84 + 12 + 2, 0, 255);
        step(512, 513, true, 84 + 12 + 8 + 3, 255, 0);
        step(513, 512, true, 84 + 24 + 4 + 3, 0, 255);
        step(-768, -768, true, 84 + 24 + 8, 255, 255);
        step(768, 1, true, 84 + 24 + 3, 255, 0);
        step(1, 768, true, 84 + 8 + 3, 0, 255);
        step(769, 1, true, 123, 48, 16, 1);
        step(1, 769, true, 123, 0, 19, 1);
        step(-769, -768, true, 120, 48, 19, 0);
    }

    private static void writesStepsInThreeBytes() {
        step(769, 1, true, 123, 48, 16, 1);
        step(-1, 769, true, 122, 0, 16 + 3, 1);
        step(4000, -3999, false, 128 + 121, 250, 15, 159);
        step(4095, -4095, true, 121, 255, 255, 255);
        step(-4095, 0, true, 122, 255, 240, 0);
        step(0, 4095, true, 123, 0, 15, 255);
        step(4096, 1, true, 127, 16, 0, 0, 1);
        step(1, 4096, true, 127, 0, 1, 16, 0);
    }

    private static void writesStepsInFourBytes() {
        step(4096, 0, true, 127, 16, 0, 0, 0);
        step(0, -4096, true, 125, 0, 0, 16, 0);
        step(-4096, -4095, true, 124, 16, 0, 15, 255);
        step(-8000, 8000, false, 128 + 126, 31, 64, 31, 64);
        step(8000, -8000, true, 125, 31, 64, 31, 64);
    }

    private static void takesTheFirstWay() {
        step(0, 0, true, 1, 0);
        step(0, 64, true, 1, 64);
        step(64, 0, true, 11, 64);
        step(64, 64, true, 20 + 48 + 12 + 3, 255);
        step(768, 768, true, 84 + 24 + 8 + 3, 255, 255);
        step(4094, 4094, true, 123, 255, 239, 254);
    }

    /** Table 2 with these bytes alone: behind the head stand these bits. */
    private static void table(String what, String bits, int... bytes) {
        font(what, x -> {
            for (int b : bytes) {
                x.table(2, b, 1);
            }
        }, Check.join(Check.row(119, 50, 1, 2, bytes.length, bytes.length), Check.bits(bits)));
    }

    private static void fillsTheLastByte() {
        table("one bit of a byte", "0 11111111 0000000", 255);
        table("seven bits of a byte", Check.literal(1, 2, 3, 4, 5, 6, 255) + "0", 1, 2, 3, 4, 5, 6, 255);
        table("eight bytes fill nine", Check.literal(1, 2, 3, 4, 5, 6, 7, 255), 1, 2, 3, 4, 5, 6, 7, 255);
        table("a row at the end", Check.literal(9) + "1 1 1 0000", 9, 9, 9, 9);
        font("no byte at all", Samples::nothing, 119, 50, 0, 0);
    }

    private static void writesRowsOfThree() {
        table("two of the same behind two", Check.literal(1, 2, 1, 2), 1, 2, 1, 2);
        table("two of the same behind one", Check.literal(0, 0, 0), 0, 0, 0);
        table("three behind one", Check.literal(9) + "1 1 1", 9, 9, 9, 9);
        table("three behind three", Check.literal(1, 2, 3) + "1 1 011", 1, 2, 3, 1, 2, 3);
        table("two at the end", Check.literal(1, 2, 3, 1, 2), 1, 2, 3, 1, 2);
        table("three, and a fourth that is another", Check.literal(1, 2, 3, 4) + "1 1 00100" + Check.literal(5),
                1, 2, 3, 4, 1, 2, 3, 5);
        table("four", Check.literal(1, 2, 3, 4) + "1 010 00100", 1, 2, 3, 4, 1, 2, 3, 4);
    }

    private static void looksFromOneOn() {
        table("1", Check.literal(7) + "1 010 1", 7, 7, 7, 7, 7);
        table("2", Check.literal(7, 8) + "1 1 010", 7, 8, 7, 8, 7);
        table("to the beginning", Check.literal(1, 2, 3, 4, 5, 6, 7, 8) + "1 1 0001000",
                1, 2, 3, 4, 5, 6, 7, 8, 1, 2, 3);
        FontPacker x = new FontPacker();
        for (int k = 0; k < 97; k++) {
            x.table(2 + k / 20, 100 + k, 1);
        }
        x.table(6, 0x646566, 3);
        x.pack();
        // The row of three stands behind 97 bytes of 9 bits, which end with the first bit of a byte.
        int[] want = Check.bits("0 1 1 0000001100001");
        int place = 3 + 10 + 1 + 97 * 9 / 8;
        CHECK.answers("97: the first bits", want[0] & 127, () -> x.at(place) & 127);
        CHECK.answers("97: the next bits", want[1], () -> x.at(place + 1));
        CHECK.answers("97: the length", place + 2, () -> x.at(-1));
    }

    private static void looksBeyondThePlace() {
        table("by one", Check.literal(1, 2) + "1 1 010" + Check.literal(9), 1, 2, 1, 2, 1, 9);
        table("by far", Check.literal(9) + "1 000010001 1", 9, 9, 9, 9, 9, 9, 9, 9, 9, 9,
                9, 9, 9, 9, 9, 9, 9, 9, 9, 9);
        table("with two in turn", Check.literal(1, 2) + "1 010 010" + Check.literal(7), 1, 2, 1, 2, 1, 2, 7);
    }

    private static void takesTheLongestRow() {
        table("farther, but longer",
                Check.literal(1, 2, 3, 4, 9) + "1 1 00101" + Check.literal(8) + "1 010 0001001",
                1, 2, 3, 4, 9, 1, 2, 3, 8, 1, 2, 3, 4);
        table("up to the end", Check.literal(1, 2, 3) + "1 00100 011", 1, 2, 3, 1, 2, 3, 1, 2, 3);
        FontPacker x = new FontPacker();
        for (int k = 0; k < 100; k++) {
            x.table(2 + k / 20, 0, 1);
        }
        CHECK.answers("through all tables: length", 3 + 10 + 1 + 3, x::pack);
        CHECK.bytes("through all tables", x, 14, Check.bits(Check.literal(0) + "1 0000001100001 1"));
    }

    private static void takesTheLeastDistance() {
        table("4 instead of 8",
                Check.literal(1, 2, 3, 9) + "1 1 00100" + Check.literal(8) + "1 1 00100" + Check.literal(7),
                1, 2, 3, 9, 1, 2, 3, 8, 1, 2, 3, 7);
        table("2 instead of 4", Check.literal(1, 2) + "1 00100 010", 1, 2, 1, 2, 1, 2, 1, 2);
    }

    private static void goesOnBehindRows() {
        table("the first place goes first",
                Check.literal(1, 2, 3, 2, 3, 4, 5) + "1 1 00111" + Check.literal(4, 5),
                1, 2, 3, 2, 3, 4, 5, 1, 2, 3, 4, 5);
        table("bytes within a row count for later ones",
                Check.literal(5) + "1 1 1" + Check.literal(6) + "1 010 00101", 5, 5, 5, 5, 6, 5, 5, 5, 5);
        table("a row behind a row", Check.literal(1, 2, 3) + "1 1 011 1 1 1", 1, 2, 3, 1, 2, 3, 3, 3, 3);
    }

    private static void writesBytes() {
        table("0", "0 00000000", 0);
        table("1", "0 00000001", 1);
        table("128", "0 10000000", 128);
        table("255", "0 11111111", 255);
        table("ten", Check.literal(0, 255, 1, 254, 2, 253, 3, 252, 128, 127),
                0, 255, 1, 254, 2, 253, 3, 252, 128, 127);
    }

    private static void writesGammaNumbers() {
        String[] gammas = {"1", "010", "011", "00100", "00101", "00110", "00111", "0001000", "0001001", "0001010",
            "0001011", "0001100", "0001101", "0001110", "0001111", "000010000", "000010001"};
        for (int n = 1; n <= 17; n++) {
            int[] bytes = new int[n + 3];
            Arrays.fill(bytes, 6);
            table("of a row of " + (n + 2), Check.literal(6) + "1" + gammas[n - 1] + "1", bytes);
        }
        for (int d = 4; d <= 17; d++) {
            int[] bytes = new int[d + 3];
            for (int k = 0; k < bytes.length; k++) {
                bytes[k] = 50 + k % d;
            }
            table("of a d of " + d, Check.literal(Arrays.copyOf(bytes, d)) + "1 1" + gammas[d - 1], bytes);
        }
    }

    private static void beginsFonts() {
        font("none", Samples::nothing, 119, 50, 0, 0);
        CHECK.same("one", packedOf(x -> x.table(6, 0, 1)).subList(0, 3), List.of(119, 50, 1));
        CHECK.same("two", packedOf(x -> x.glyph(0)).subList(0, 3), List.of(119, 50, 2));
        CHECK.same("seven", packedOf(Samples::largest).subList(0, 3), List.of(119, 50, 7));
    }

    private static void marksTables() {
        List<Integer> all = packedOf(x -> {
            x.glyph(0);
            for (int t = 6; t >= 2; t--) {
                x.table(t, t, t);
            }
        });
        CHECK.same("seven", all.subList(3, 20), List.of(64, 0, 2, 65, 4, 1, 2, 2, 3, 3, 4, 4, 5, 5, 6, 6, 23));
        CHECK.same("some", packedOf(x -> {
            x.table(5, 0, 1);
            x.table(3, 0, 1);
        }).subList(2, 8), List.of(2, 3, 1, 5, 1, 2));
    }

    private static void tellsPlainLengths() {
        CHECK.same("no outlines", packedOf(x -> x.glyph(0)).get(4), 0);
        CHECK.same("outlines that were made even", packedOf(x -> streamOfLength(x, 1, 0)).get(4), 4);
        CHECK.same("two such outlines", packedOf(x -> {
            streamOfLength(x, 1, 0);
            streamOfLength(x, 1, 0);
        }).get(4), 8);
        CHECK.same("six advances", packedOf(x -> {
            for (int g = 0; g < 6; g++) {
                x.glyph(2000);
            }
        }).get(7), 24);
        CHECK.same("a table of 1", packedOf(x -> x.table(2, 0, 1)).get(4), 1);
        CHECK.same("a table of 20", packedOf(x -> {
            x.table(2, 0, 8);
            x.table(2, 0, 8);
            x.table(2, 0, 4);
        }).get(4), 20);
    }

    private static void tellsLengthsInTheStream() {
        CHECK.same("one advance of one byte", packedOf(x -> x.glyph(252)).subList(3, 9), List.of(64, 0, 2, 65, 4, 1));
        CHECK.same("one advance of two", packedOf(x -> x.glyph(253)).subList(3, 9), List.of(64, 0, 2, 65, 4, 2));
        CHECK.same("one advance of three", packedOf(x -> x.glyph(762)).subList(3, 9), List.of(64, 0, 2, 65, 4, 3));
        CHECK.same("sixteen points", packedOf(x -> streamOfLength(x, 16, 0)).subList(3, 9),
                List.of(64, 4, 35, 65, 4, 1));
    }

    private static void tellsTheStreamsLength() {
        CHECK.same("0", packedOf(Samples::nothing).get(3), 0);
        CHECK.same("3", packedOf(x -> x.glyph(0)).get(9), 3);
        CHECK.same("36 and 20", packedOf(x -> streamOfLength(x, 16, 20)).get(11), 56);
        CHECK.same("100", packedOf(x -> {
            for (int k = 0; k < 100; k++) {
                x.table(2 + k / 20, 0, 1);
            }
        }).get(13), 100);
    }

    private static void becomesTheBuffer() {
        int[] want = Check.join(Check.row(119, 50, 2, 64, 10, 9, 65, 4, 2, 11),
                Check.bits(Check.literal(1, 1, 3, 11, 131, 12, 10, 44, 254, 254, 94)));
        font("an empty buffer", Samples::oneGlyph, want);
        font("a full buffer", x -> {
            Samples.fullBuffer(x);
            Samples.oneGlyph(x);
        }, want);
        font("the same again", x -> {
            Samples.oneGlyph(x);
            x.pack();
        }, want);
        font("behind the plain font", x -> {
            Samples.oneGlyph(x);
            x.plain();
        }, want);
        FontPacker x = new FontPacker();
        Samples.oneGlyph(x);
        CHECK.answers("its length", 23, x::pack);
        CHECK.answers("the font is left", 3, () -> x.count(0));
        FontPacker y = new FontPacker();
        CHECK.answers("the shortest", 4, y::pack);
        Samples.largest(y);
        int length = y.pack();
        CHECK.answers("the largest is read", 7, y::read);
        CHECK.answers("and packed again", length, y::pack);
        CHECK.answers("and is plain", 704, y::plain);
    }

    private static void refusesEmptyContours() {
        CHECK.badState("alone", x -> {
            x.put(7, 1);
            Samples.emptyContour(x);
        }, FontPacker::pack);
        CHECK.badState("behind another", Samples::emptyContourBehindAnother, FontPacker::pack);
        CHECK.badState("in the sixth glyph", Samples::emptyContourInTheSixthGlyph, FontPacker::pack);
        CHECK.badState("behind a packed font", x -> {
            Samples.oneGlyph(x);
            x.pack();
            x.contour();
        }, FontPacker::pack);
        FontPacker x = new FontPacker();
        Samples.emptyContour(x);
        x.point(0, 0, true);
        CHECK.answers("it has a point now", 10 + 4, x::pack);
        x.glyph(0);
        CHECK.answers("a glyph without contours", 10 + 9, x::pack);
    }
}
