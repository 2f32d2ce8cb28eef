import java.util.Arrays;
import java.util.function.Consumer;

/** Promises 9 and 10: the four stages in which reading fails. */
public final class ReadFailsTest {
    private static final Check CHECK = new Check();
    private static final int[] HEAD = PackedBytes.HEAD;
    private static final int[] STREAM = PackedBytes.STREAM;
    private static final int[] OUTLINES = Arrays.copyOf(STREAM, 5);

    public static void main(String[] args) {
        stageOne();
        stageTwo();
        stageThree();
        CHECK.sentence("Stage 4", "a length in the plain font is not the one that was said",
                ReadFailsTest::findsWrongLengths);
        CHECK.sentence("Reading", "It FAILS in the first of these stages", ReadFailsTest::failsInTheFirstStage);
        CHECK.finish();
    }

    private static void stageOne() {
        CHECK.sentence("Stage 1", "a byte missing", ReadFailsTest::missesBytes);
        CHECK.sentence("Stage 1", "or not as said", ReadFailsTest::findsOtherBytes);
        CHECK.sentence("Long", "the first one is not 128", ReadFailsTest::findsZerosBeforeLongNumbers);
        CHECK.sentence("Long", "there are at most 3", ReadFailsTest::findsLongNumbersThatAreTooLong);
        CHECK.sentence("Stage 1", "tables not with rising numbers", ReadFailsTest::findsTablesInAnotherOrder);
        CHECK.sentence("Stage 1", "0 .. 6", ReadFailsTest::findsOtherTables);
        CHECK.sentence("Stage 1", "64 not for just 0 and 1", ReadFailsTest::findsWrongMarks);
        CHECK.sentence("Stage 1", "0 without 1 or 1 without 0", ReadFailsTest::missesTables);
        CHECK.sentence("Stage 1", "a table of 2 .. 6 with a length not 1 .. 20", ReadFailsTest::findsWrongTableLengths);
        CHECK.sentence("Stage 1", "a stream's length that is not that of its tables together",
                ReadFailsTest::findsAnotherStreamsLength);
        CHECK.sentence("Stage 1", "or above 1000", ReadFailsTest::findsTooLongAStream);
    }

    private static void stageTwo() {
        CHECK.sentence("Stage 2", "bits missing", ReadFailsTest::missesBits);
        CHECK.sentence("Stage 2", "a d beyond the beginning", ReadFailsTest::findsRowsBeforeTheBeginning);
        CHECK.sentence("Stage 2", "a gamma number above 65535", ReadFailsTest::findsGreatGammaNumbers);
        CHECK.sentence("Stage 2", "more bytes than there are to be", ReadFailsTest::findsTooManyBytes);
        CHECK.sentence("Stage 2", "a bit 1", ReadFailsTest::findsABitLeft);
        CHECK.sentence("Stage 2", "or a whole byte left", ReadFailsTest::findsAByteLeft);
    }

    private static void stageThree() {
        CHECK.sentence("Stage 3", "numbers missing", ReadFailsTest::missesNumbers);
        CHECK.sentence("Stage 3", "or something left", ReadFailsTest::findsSomethingLeft);
        CHECK.sentence("Stage 3", "more glyphs", ReadFailsTest::findsTooManyGlyphs);
        CHECK.sentence("Stage 3", "contours", ReadFailsTest::findsTooManyContours);
        CHECK.sentence("Stage 3", "or points than allowed", ReadFailsTest::findsTooManyPoints);
        CHECK.sentence("Stage 3", "or none where there must be some", ReadFailsTest::findsNone);
        CHECK.sentence("Stage 3", "points .. out of range", ReadFailsTest::findsPointsTooFar);
        CHECK.sentence("Stage 3", "or advances out of range", ReadFailsTest::findsTooGreatAdvances);
        CHECK.sentence("Stage 3", "another number of advances than glyphs", ReadFailsTest::findsOtherNumbersOfAdvances);
    }

    /** The reading of these bytes fails in this stage, and changes nothing but the stage. */
    private static void fails(String what, int stage, int... bytes) {
        Consumer<FontPacker> build = x -> {
            Samples.something(x);
            Check.load(x, bytes);
        };
        FontPacker packer = Check.made(build);
        CHECK.fails(what, IllegalArgumentException.class, packer::read);
        CHECK.answers(what + ": stage", stage, packer::stage);
        CHECK.buffer(what, packer, bytes);
        CHECK.same(what + ": the font", Check.fontBehind(build.andThen(ReadFailsTest::readInVain)),
                Check.fontBehind(build));
    }

    private static void readInVain(FontPacker x) {
        try {
            x.read();
        } catch (IllegalArgumentException e) {
            // Only what is left of the font is asked.
        }
    }

    private static void reads(String what, int tables, int... bytes) {
        FontPacker x = Check.made(Samples::something);
        Check.load(x, bytes);
        CHECK.answers(what, tables, x::read);
        CHECK.answers(what + ": stage", 0, x::stage);
    }

    private static int[] with(int[] bytes, int place, int b) {
        int[] changed = bytes.clone();
        changed[place] = b;
        return changed;
    }

    private static void missesBytes() {
        int[] whole = PackedBytes.packed(HEAD, STREAM);
        reads("all of them", 2, whole);
        for (int n = 0; n < HEAD.length; n++) {
            fails("only " + n, 1, Arrays.copyOf(whole, n));
        }
        fails("the stream's length behind no tables", 1, 119, 50, 0);
        fails("the second byte of a long number", 1, 119, 50, 2, 64, 129);
        fails("the third byte of a long number", 1, 119, 50, 2, 64, 129, 129);
        fails("the second byte of the stream's length", 1, 119, 50, 1, 2, 1, 129);
    }

    private static void findsOtherBytes() {
        int[] whole = PackedBytes.packed(HEAD, STREAM);
        for (int b : Check.row(0, 118, 120, 50, 119 + 128)) {
            fails(b + " for 119", 1, with(whole, 0, b));
        }
        for (int b : Check.row(0, 49, 51, 119, 50 + 128)) {
            fails(b + " for 50", 1, with(whole, 1, b));
        }
        fails("a table more than said", 1, PackedBytes.packed(Check.row(119, 50, 1, 2, 1, 3, 1, 2), 9, 9));
        fails("a table less than said", 1, PackedBytes.packed(Check.row(119, 50, 2, 2, 1, 1), 9));
        fails("eight tables", 1, 119, 50, 8, 64, 0, 2, 65, 4, 1, 2, 1, 3, 1, 4, 1, 5, 1, 6, 1, 7, 1, 9);
        fails("255 tables", 1, PackedBytes.packed(Check.row(119, 50, 255, 2, 1, 1), 9));
    }

    private static void findsZerosBeforeLongNumbers() {
        fails("a table's length", 1, PackedBytes.packed(Check.row(119, 50, 1, 2, 128, 1, 1), 9));
        fails("the stream's length", 1, PackedBytes.packed(Check.row(119, 50, 1, 2, 1, 128, 1), 9));
        fails("the stream's length of 0", 1, 119, 50, 0, 128, 0);
        fails("the plain length of table 0", 1,
                PackedBytes.packed(Check.row(119, 50, 2, 64, 128, 6, 5, 65, 4, 1, 6), STREAM));
        fails("table 0 in the stream", 1,
                PackedBytes.packed(Check.row(119, 50, 2, 64, 6, 128, 5, 65, 4, 1, 6), STREAM));
        fails("the plain length of table 1", 1,
                PackedBytes.packed(Check.row(119, 50, 2, 64, 6, 5, 65, 128, 4, 1, 6), STREAM));
        fails("table 1 in the stream", 1,
                PackedBytes.packed(Check.row(119, 50, 2, 64, 6, 5, 65, 4, 128, 1, 6), STREAM));
        fails("twice", 1, PackedBytes.packed(Check.row(119, 50, 1, 2, 128, 128, 1, 1), 9));
        fails("128 second is as said", 4,
                PackedBytes.packed(Check.row(119, 50, 2, 64, 129, 128, 6, 5, 65, 4, 1, 6), STREAM));
    }

    private static void findsLongNumbersThatAreTooLong() {
        fails("three", 4, PackedBytes.packed(Check.row(119, 50, 2, 64, 129, 128, 0, 5, 65, 4, 1, 6), STREAM));
        fails("the greatest of three", 4,
                PackedBytes.packed(Check.row(119, 50, 2, 64, 255, 255, 127, 5, 65, 4, 1, 6), STREAM));
        fails("four", 1, PackedBytes.packed(Check.row(119, 50, 2, 64, 129, 128, 128, 6, 5, 65, 4, 1, 6), STREAM));
        fails("four, a table's length", 1, PackedBytes.packed(Check.row(119, 50, 1, 2, 129, 128, 128, 1, 1), 9));
        fails("five, which an int has no room for", 1,
                PackedBytes.packed(Check.row(119, 50, 1, 2, 144, 128, 128, 128, 1, 1), 9));
        fails("five, the stream's length", 1,
                PackedBytes.packed(Check.row(119, 50, 1, 2, 1, 144, 128, 128, 128, 1), 9));
    }

    private static void findsTablesInAnotherOrder() {
        fails("the same twice", 1, PackedBytes.packed(Check.row(119, 50, 2, 2, 1, 2, 1, 2), 9, 9));
        fails("falling", 1, PackedBytes.packed(Check.row(119, 50, 2, 3, 1, 2, 1, 2), 9, 9));
        fails("falling behind rising", 1, PackedBytes.packed(Check.row(119, 50, 3, 2, 1, 6, 1, 5, 1, 3), 9, 9, 9));
        fails("1 before 0", 1, PackedBytes.packed(Check.row(119, 50, 2, 65, 4, 1, 64, 6, 5, 6), STREAM));
        fails("2 before 0", 1, PackedBytes.packed(Check.row(119, 50, 3, 2, 1, 64, 6, 5, 65, 4, 1, 7),
                Check.join(Check.row(9), STREAM)));
        fails("0 twice", 1, 119, 50, 3, 64, 0, 2, 64, 0, 2, 65, 4, 1, 5, 0, 0, 0, 0, 0, 0);
        reads("rising", 2, PackedBytes.packed(Check.row(119, 50, 2, 2, 1, 3, 1, 2), 9, 9));
        reads("rising with gaps", 2, PackedBytes.packed(Check.row(119, 50, 2, 2, 1, 6, 1, 2), 9, 9));
    }

    private static void findsOtherTables() {
        for (int t = 2; t <= 6; t++) {
            reads("table " + t, 1, PackedBytes.packed(Check.row(119, 50, 1, t, 1, 1), 9));
        }
        for (int t : Check.row(7, 8, 63, 127, 128, 255)) {
            fails("table " + t, 1, PackedBytes.packed(Check.row(119, 50, 1, t, 1, 1), 9));
        }
        fails("7 without bytes in the stream", 1, 119, 50, 1, 7, 1, 0);
        fails("7 with two lengths, and no stream", 1, 119, 50, 1, 7, 1, 0, 0);
        fails("7 with no length, and no stream", 1, 119, 50, 1, 7, 0, 0, 0);
        fails("7 behind 6", 1, PackedBytes.packed(Check.row(119, 50, 2, 6, 1, 7, 1, 2), 9, 9));
    }

    private static void findsWrongMarks() {
        fails("0 without 64", 1, PackedBytes.packed(Check.row(119, 50, 2, 0, 6, 5, 65, 4, 1, 6), STREAM));
        fails("0 without 64, and one length", 1, PackedBytes.packed(Check.row(119, 50, 2, 0, 5, 65, 4, 1, 6), STREAM));
        fails("1 without 64", 1, PackedBytes.packed(Check.row(119, 50, 2, 64, 6, 5, 1, 4, 1, 6), STREAM));
        fails("1 without 64, and one length", 1, PackedBytes.packed(Check.row(119, 50, 2, 64, 6, 5, 1, 1, 6), STREAM));
        fails("neither with 64", 1, PackedBytes.packed(Check.row(119, 50, 2, 0, 6, 5, 1, 4, 1, 6), STREAM));
        for (int t = 2; t <= 7; t++) {
            fails(t + " with 64", 1, PackedBytes.packed(Check.row(119, 50, 1, 64 + t, 1, 1), 9));
            fails(t + " with 64, and two lengths", 1, PackedBytes.packed(Check.row(119, 50, 1, 64 + t, 1, 1, 1), 9));
            fails(t + " with 128", 1, PackedBytes.packed(Check.row(119, 50, 1, 128 + t, 1, 1), 9));
        }
        fails("0 and 1 with 128", 1, PackedBytes.packed(Check.row(119, 50, 2, 128, 6, 5, 129, 4, 1, 6), STREAM));
        fails("0 and 1 with 192", 1, PackedBytes.packed(Check.row(119, 50, 2, 192, 6, 5, 193, 4, 1, 6), STREAM));
    }

    private static void missesTables() {
        fails("0 alone", 1, PackedBytes.packed(Check.row(119, 50, 1, 64, 6, 5, 5), OUTLINES));
        fails("1 alone", 1, PackedBytes.packed(Check.row(119, 50, 1, 65, 4, 1, 1), 7));
        fails("0 and 2", 1, PackedBytes.packed(Check.row(119, 50, 2, 64, 0, 2, 2, 1, 3), 1, 0, 7));
        fails("1 and 2", 1, PackedBytes.packed(Check.row(119, 50, 2, 65, 4, 1, 2, 1, 2), 7, 9));
        fails("an empty 0", 1, 119, 50, 1, 64, 0, 0, 0);
        fails("an empty 1", 1, 119, 50, 1, 65, 0, 0, 0);
        fails("both empty", 3, 119, 50, 2, 64, 0, 0, 65, 0, 0, 0);
    }

    private static void findsWrongTableLengths() {
        int[] bytes = new int[21];
        for (int t = 2; t <= 6; t++) {
            fails("0 for table " + t, 1, 119, 50, 1, t, 0, 0);
            reads("1 for table " + t, 1, PackedBytes.packed(Check.row(119, 50, 1, t, 1, 1), 0));
            reads("20 for table " + t, 1, PackedBytes.packed(Check.row(119, 50, 1, t, 20, 20), new int[20]));
            fails("21 for table " + t, 1, PackedBytes.packed(Check.row(119, 50, 1, t, 21, 21), bytes));
        }
        fails("0 beside another", 1, PackedBytes.packed(Check.row(119, 50, 2, 2, 0, 3, 1, 1), 9));
        fails("127", 1, PackedBytes.packed(Check.row(119, 50, 1, 2, 127, 127), new int[127]));
        fails("257", 1, PackedBytes.packed(Check.row(119, 50, 1, 2, 130, 1, 130, 1), new int[257]));
        fails("65537", 1, 119, 50, 1, 2, 132, 128, 1, 132, 128, 1, 0, 0);
    }

    private static void findsAnotherStreamsLength() {
        fails("too small", 1, PackedBytes.packed(Check.row(119, 50, 1, 2, 2, 1), 9, 9));
        fails("too great", 1, PackedBytes.packed(Check.row(119, 50, 1, 2, 2, 3), 9, 9));
        fails("too great, with the bytes", 1, PackedBytes.packed(Check.row(119, 50, 1, 2, 2, 3), 9, 9, 9));
        fails("0 for one table", 1, 119, 50, 1, 2, 1, 0);
        fails("1 for no tables", 1, 119, 50, 0, 1, 0, 0);
        fails("that of the plain tables", 1, PackedBytes.packed(Check.row(119, 50, 2, 64, 6, 5, 65, 4, 1, 10), STREAM));
        fails("that of table 0 alone", 1, PackedBytes.packed(Check.row(119, 50, 2, 64, 6, 5, 65, 4, 1, 5), STREAM));
        reads("of two tables", 2, PackedBytes.packed(HEAD, STREAM));
        reads("of seven tables", 7, PackedBytes.packed(Check.row(119, 50, 7, 64, 6, 5, 65, 4, 1,
                2, 1, 3, 2, 4, 1, 5, 2, 6, 1, 13), Check.join(STREAM, new int[7])));
    }

    private static void findsTooLongAStream() {
        fails("1000", 3, PackedBytes.zeros(1000));
        fails("1001", 1, PackedBytes.zeros(1001));
        fails("1002", 1, PackedBytes.zeros(1002));
        fails("4194302", 1, 119, 50, 2, 64, 6, 255, 255, 127, 65, 4, 255, 255, 127, 255, 255, 126);
    }

    private static void missesBits() {
        int[] whole = PackedBytes.packed(HEAD, STREAM);
        for (int n = HEAD.length; n < whole.length; n++) {
            fails("only " + n + " bytes", 2, Arrays.copyOf(whole, n));
        }
        fails("all", 2, PackedBytes.table(1, ""));
        fails("the last of a byte", 2, PackedBytes.table(1, "0 1111111"));
        fails("all behind the first byte", 2, PackedBytes.table(8, Check.literal(1, 2, 3, 4, 5, 6, 7)));
        fails("the n", 2, PackedBytes.table(10, Check.literal(1, 2, 3, 4, 5, 6, 7) + "1"));
        fails("the end of the n", 2, PackedBytes.table(4, Check.literal(9) + "1 000001"));
        fails("the d", 2, PackedBytes.table(10, Check.literal(1, 2, 3, 4, 5, 6) + "1 1"));
        fails("the end of the d", 2, PackedBytes.table(8, Check.literal(1, 2, 3, 4, 5) + "1 1"));
        fails("zeros alone", 2, PackedBytes.table(4, Check.literal(9) + "1 000000"));
    }

    private static void findsRowsBeforeTheBeginning() {
        fails("at once", 2, PackedBytes.table(3, "1 1 1"));
        fails("by one", 2, PackedBytes.table(4, Check.literal(9) + "1 1 010"));
        reads("not beyond it", 1, PackedBytes.table(4, Check.literal(9) + "1 1 1"));
        fails("by one behind four", 2, PackedBytes.table(7, Check.literal(1, 2, 3, 4) + "1 1 00101"));
        reads("not beyond it behind four", 1, PackedBytes.table(7, Check.literal(1, 2, 3, 4) + "1 1 00100"));
        fails("by far", 2, PackedBytes.table(4, Check.literal(9) + "1 1 " + Reference.gamma(65535)));
        fails("at once, and then all bytes", 2, PackedBytes.table(1, "1 1 1" + Check.literal(9)));
        fails("at once, and then some bytes", 2, PackedBytes.table(2, "1 1 1" + Check.literal(9)));
        fails("by one, and then all bytes", 2,
                PackedBytes.table(4, Check.literal(9) + "1 1 010" + Check.literal(1, 2, 3)));
    }

    /** A number of so many bits and 1 is 1 again where only these bits are kept. */
    private static String gammaBeyond(int bits) {
        return "0".repeat(bits) + "1" + "0".repeat(bits - 1) + "1";
    }

    private static void findsGreatGammaNumbers() {
        fails("an n of 65535", 2, PackedBytes.table(4, Check.literal(9) + "1" + Reference.gamma(65535) + "1"));
        for (int bits : Check.row(16, 31, 32, 63, 64)) {
            fails("an n of 2^" + bits + " + 1", 2,
                    PackedBytes.table(4, Check.literal(9) + "1" + gammaBeyond(bits) + "1"));
            fails("a d of 2^" + bits + " + 1", 2,
                    PackedBytes.table(4, Check.literal(9) + "1 1" + gammaBeyond(bits)));
        }
        fails("an n of 65536", 2, PackedBytes.table(4, Check.literal(9) + "1" + Reference.gamma(65536) + "1"));
        fails("a d of 65536", 2, PackedBytes.table(4, Check.literal(9) + "1 1" + Reference.gamma(65536)));
        fails("sixteen zeros for an n", 2, PackedBytes.table(3, Check.literal(9) + "1" + "0".repeat(16) + "1"));
        fails("sixteen zeros for a d", 2, PackedBytes.table(4, Check.literal(9) + "1 1" + "0".repeat(16) + "1"));
        fails("zeros without end", 2, PackedBytes.table(4, Check.literal(9) + "1" + "0".repeat(400)));
    }

    private static void findsTooManyBytes() {
        fails("one", 2, PackedBytes.table(4, Check.literal(9) + "1 010 1"));
        fails("two", 2, PackedBytes.table(4, Check.literal(9) + "1 011 1"));
        reads("none", 1, PackedBytes.table(4, Check.literal(9) + "1 1 1"));
        fails("one behind a row", 2, PackedBytes.table(6, Check.literal(9) + "1 1 1 1 1 1"));
        reads("none behind a row", 1, PackedBytes.table(7, Check.literal(9) + "1 1 1 1 1 1"));
        fails("one, and then others", 2, PackedBytes.table(4, Check.literal(9) + "1 010 1" + Check.literal(1, 2)));
        fails("one, and then all others", 2, PackedBytes.table(4, Check.literal(9) + "1 010 1" + Check.literal(1, 2, 3)));
        fails("many", 2, PackedBytes.table(4, Check.literal(9) + "1" + Reference.gamma(32768) + "1"));
        fails("up to 1001", 2, PackedBytes.table(20, Check.literal(9) + "1" + Reference.gamma(998) + "1"));
    }

    private static void findsABitLeft() {
        reads("none", 1, PackedBytes.table(1, Check.literal(9) + "0000000"));
        for (int k = 0; k < 7; k++) {
            String bits = "0".repeat(k) + "1" + "0".repeat(6 - k);
            fails(bits, 2, PackedBytes.table(1, Check.literal(9) + bits));
        }
        fails("the last of seven bytes", 2, PackedBytes.table(7, Check.literal(1, 2, 3, 4, 5, 6, 7) + "1"));
        fails("behind a row", 2, PackedBytes.table(4, Check.literal(9) + "1 1 1 0001"));
    }

    private static void findsAByteLeft() {
        fails("behind a font", 2, Check.join(PackedBytes.packed(HEAD, STREAM), Check.row(0)));
        fails("two behind a font", 2, Check.join(PackedBytes.packed(HEAD, STREAM), Check.row(0, 0)));
        fails("behind no tables", 2, 119, 50, 0, 0, 0);
        reads("none behind no tables", 0, 119, 50, 0, 0);
        fails("behind whole bytes", 2, PackedBytes.table(8, Check.literal(1, 2, 3, 4, 5, 6, 7, 8) + "00000000"));
        reads("none behind whole bytes", 1, PackedBytes.table(8, Check.literal(1, 2, 3, 4, 5, 6, 7, 8)));
        fails("with bits 1", 2, Check.join(PackedBytes.packed(HEAD, STREAM), Check.row(255)));
    }

    private static void findsInTables(String what, int[] outlines, int... advances) {
        // A length in the plain font that no font has: stage 4 comes behind stage 3.
        fails(what, 3, PackedBytes.glyphs(1, 4, outlines, advances));
    }

    private static void missesNumbers() {
        findsInTables("all", Check.row());
        findsInTables("all of the outlines", Check.row(), 7);
        findsInTables("all contours", Check.row(1), 7);
        findsInTables("one glyph's contours", Check.row(2, 0), 1, 1);
        findsInTables("contours, with advances that would do", Check.row(2), 0, 0);
        fails("all but one glyph's", 3, PackedBytes.glyphs(0, 4, Check.row(2, 0), 7));
        fails("all but five glyphs'", 3, PackedBytes.glyphs(0, 20, Check.row(6, 0, 0, 0, 0, 0), 1, 2, 3, 4, 5));
        findsInTables("all sizes", Check.row(1, 1), 7);
        findsInTables("one size", Check.row(1, 2, 1), 7);
        findsInTables("the end of a size", Check.row(1, 1, 253, 0), 7);
        findsInTables("all signs", Check.row(1, 1, 1), 7);
        findsInTables("one sign", Check.row(1, 1, 2, 1), 7);
        findsInTables("a detail of one", Check.row(1, 1, 1, 23), 7);
        findsInTables("a detail of two", Check.row(1, 1, 1, 84, 0), 7);
        findsInTables("a detail of three", Check.row(1, 1, 1, 120, 0, 0), 7);
        findsInTables("a detail of four", Check.row(1, 1, 1, 127, 0, 0, 0), 7);
        findsInTables("a second point's detail", Check.row(1, 1, 2, 1, 1, 0), 7);
        findsInTables("the end of an advance behind 255", Check.row(1, 0), 255);
        findsInTables("the end of an advance behind 254", Check.row(1, 0), 254);
        findsInTables("the end of an advance behind 253", Check.row(1, 0), 253, 1);
        fails("a detail, with an advance that would do", 3,
                PackedBytes.packed(Check.row(119, 50, 2, 64, 6, 4, 65, 4, 2, 6), STREAM));
        fails("a part of an advance, with a table 2 that would do", 3,
                PackedBytes.packed(Check.row(119, 50, 3, 64, 0, 2, 65, 4, 1, 2, 1, 4), 1, 0, 255, 0));
    }

    private static void findsSomethingLeft() {
        findsInTables("behind details", Check.row(1, 1, 1, 23, 0, 0), 7);
        findsInTables("behind no contours", Check.row(1, 0, 0), 7);
        findsInTables("behind advances", Check.row(1, 0), 7, 0);
        findsInTables("behind an advance of three", Check.row(1, 0), 253, 0, 7, 0);
        fails("an advance's byte with the outlines", 3,
                PackedBytes.packed(Check.row(119, 50, 2, 64, 6, 6, 65, 4, 0, 6), STREAM));
    }

    private static void findsTooManyGlyphs() {
        reads("six", 2, PackedBytes.advances(6, 1, 2, 3, 4, 5, 6));
        fails("seven", 3, PackedBytes.advances(7, 1, 2, 3, 4, 5, 6, 7));
        fails("eight", 3, PackedBytes.advances(8, 1, 2, 3, 4, 5, 6, 7, 8));
        findsInTables("255", Check.row(255, 0), 7);
    }

    private static void findsTooManyContours() {
        reads("four", 2, PackedBytes.glyphs(8, 4, Check.row(1, 4, 1, 1, 1, 1, 1, 1, 1, 1, 0, 0, 0, 0), 7));
        findsInTables("five", Check.row(1, 5, 1, 1, 1, 1, 1, 1, 1, 1, 1, 1, 0, 0, 0, 0, 0), 7);
        fails("five without points", 3, PackedBytes.glyphs(0, 0, Check.row(1, 5)));
        fails("five without points in the second glyph", 3, PackedBytes.glyphs(0, 4, Check.row(2, 0, 5), 7));
        findsInTables("five in the second glyph",
                Check.row(2, 0, 5, 1, 1, 1, 1, 1, 1, 1, 1, 1, 1, 0, 0, 0, 0, 0), 7, 7);
        findsInTables("255", Check.row(1, 255, 1, 1, 0), 7);
    }

    /** A glyph with contours of these sizes, all points at 0, 0. */
    private static int[] sizes(int... sizes) {
        int points = Arrays.stream(sizes).sum();
        return Check.join(Check.row(1, sizes.length), sizes, new int[2 * points]);
    }

    private static void findsTooManyPoints() {
        reads("sixteen", 2, PackedBytes.glyphs(4, 4, sizes(16), 7));
        findsInTables("seventeen", sizes(17), 7);
        reads("sixteen in two contours", 2, PackedBytes.glyphs(6, 4, sizes(15, 1), 7));
        findsInTables("seventeen in two contours", sizes(16, 1), 7);
        findsInTables("seventeen in two contours, the second greater", sizes(1, 16), 7);
        reads("sixteen in four contours", 2, PackedBytes.glyphs(8, 4, sizes(4, 4, 4, 4), 7));
        findsInTables("seventeen in four contours", sizes(4, 4, 4, 5), 7);
        reads("sixteen in each of two glyphs", 2, PackedBytes.glyphs(8, 8,
                Check.join(Check.row(2, 1, 1, 16, 16), new int[64]), 7, 7));
        findsInTables("253, written in two bytes", Check.row(1, 1, 255, 0), 7);
        findsInTables("257", Check.row(1, 1, 253, 1, 1, 23, 0x23), 7);
        findsInTables("65535", Check.row(1, 1, 253, 255, 255), 7);
    }

    private static void findsNone() {
        findsInTables("glyphs", Check.row(0));
        findsInTables("glyphs, but advances", Check.row(0), 7);
        fails("glyphs, with the lengths that would be", 3, PackedBytes.glyphs(0, 0, Check.row(0)));
        findsInTables("points", Check.row(1, 1, 0), 7);
        findsInTables("points in the second contour", Check.row(1, 2, 1, 0, 23, 0), 7);
        findsInTables("points in the first contour", Check.row(1, 2, 0, 1, 23, 0), 7);
        findsInTables("points, written long", Check.row(1, 1, 253, 0, 0), 7);
        reads("contours may be none", 2, PackedBytes.advances(1, 7));
    }

    private static void findsPointsTooFar() {
        reads("4000, 4000", 2, PackedBytes.glyphs(8, 4, Check.row(1, 1, 1, 127, 15, 160, 15, 160), 7));
        reads("-4000, -4000", 2, PackedBytes.glyphs(8, 4, Check.row(1, 1, 1, 124, 15, 160, 15, 160), 7));
        findsInTables("x 4001", Check.row(1, 1, 1, 127, 15, 161, 0, 0), 7);
        findsInTables("x -4001", Check.row(1, 1, 1, 126, 15, 161, 0, 0), 7);
        findsInTables("y 4001", Check.row(1, 1, 1, 127, 0, 0, 15, 161), 7);
        findsInTables("y -4001", Check.row(1, 1, 1, 125, 0, 0, 15, 161), 7);
        findsInTables("4095 in three bytes", Check.row(1, 1, 1, 123, 255, 240, 0), 7);
        findsInTables("65535", Check.row(1, 1, 1, 127, 255, 255, 255, 255), 7);
        findsInTables("-65535", Check.row(1, 1, 1, 124, 255, 255, 255, 255), 7);
        findsInTables("too far in between", Check.row(1, 1, 3, 127, 11, 10, 15, 160, 0, 0, 1, 1), 7);
        findsInTables("too far with the last point", Check.row(1, 1, 2, 127, 1, 15, 160, 15, 160, 1), 7);
        findsInTables("too far across contours", Check.row(1, 2, 1, 1, 127, 11, 15, 160, 15, 160, 1), 7);
        reads("each glyph from 0, 0", 2, PackedBytes.glyphs(16, 8,
                Check.row(2, 1, 1, 1, 1, 127, 127, 15, 160, 15, 160, 15, 160, 15, 160), 7, 7));
    }

    private static void findsTooGreatAdvances() {
        reads("2000", 2, PackedBytes.advances(1, 253, 7, 208));
        fails("2001", 3, PackedBytes.advances(1, 253, 7, 209));
        fails("2001 for the last of two", 3, PackedBytes.advances(2, 7, 253, 7, 209));
        fails("2048", 3, PackedBytes.advances(1, 253, 8, 0));
        fails("32768", 3, PackedBytes.advances(1, 253, 128, 0));
        fails("65535", 3, PackedBytes.advances(1, 253, 255, 255));
    }

    private static void findsOtherNumbersOfAdvances() {
        fails("none for one", 3, PackedBytes.advances(1));
        fails("two for one", 3, PackedBytes.advances(1, 1, 2));
        fails("one for two", 3, PackedBytes.advances(2, 1));
        fails("five for six", 3, PackedBytes.advances(6, 1, 2, 3, 4, 5));
        fails("seven for six", 3, PackedBytes.advances(6, 1, 2, 3, 4, 5, 6, 7));
        reads("two for two", 2, PackedBytes.advances(2, 1, 2));
    }

    private static void findsWrongLengths() {
        reads("6 and 4", 2, PackedBytes.glyphs(6, 4, OUTLINES, 7));
        for (int length : Check.row(0, 4, 5, 7, 8)) {
            fails("outlines of " + length + " for 6", 4, PackedBytes.glyphs(length, 4, OUTLINES, 7));
        }
        for (int length : Check.row(0, 1, 3, 5, 8)) {
            fails("advances of " + length + " for 4", 4, PackedBytes.glyphs(6, length, OUTLINES, 7));
        }
        fails("outlines of 262 for 6", 4,
                PackedBytes.packed(Check.row(119, 50, 2, 64, 130, 6, 5, 65, 4, 1, 6), STREAM));
        fails("outlines of 65542 for 6", 4,
                PackedBytes.packed(Check.row(119, 50, 2, 64, 132, 128, 6, 5, 65, 4, 1, 6), STREAM));
        fails("advances of 260 for 4", 4,
                PackedBytes.packed(Check.row(119, 50, 2, 64, 6, 5, 65, 130, 4, 1, 6), STREAM));
        fails("outlines of 2 for 0", 4, PackedBytes.glyphs(2, 4, Check.row(1, 0), 7));
        reads("outlines of 0 for 0", 2, PackedBytes.glyphs(0, 4, Check.row(1, 0), 7));
        fails("both wrong", 4, PackedBytes.glyphs(4, 6, OUTLINES, 7));
    }

    private static void failsInTheFirstStage() {
        fails("1 and 2", 1, 119, 50, 1, 2, 0, 0, 255);
        fails("1 and 3", 1, PackedBytes.packed(Check.row(119, 50, 3, 64, 6, 1, 65, 4, 1, 2, 21, 23),
                Check.join(Check.row(0, 7), new int[21])));
        fails("1 and 4", 1, PackedBytes.packed(Check.row(119, 50, 2, 64, 9, 5, 65, 4, 1, 7), STREAM));
        fails("2 and 3", 2, Check.join(PackedBytes.glyphs(0, 4, Check.row(0), 7), Check.row(0)));
        fails("2 and 4", 2, Check.join(PackedBytes.packed(Check.row(119, 50, 2, 64, 9, 5, 65, 4, 1, 6), STREAM),
                Check.row(0)));
        fails("3 and 4", 3, PackedBytes.glyphs(9, 9, OUTLINES, 7, 8));
        fails("3 in table 1, and 4", 3, PackedBytes.glyphs(9, 4, OUTLINES, 253, 7, 209));
    }
}
