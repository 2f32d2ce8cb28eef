import java.util.Arrays;

/** Promises 9 and 10: read and stage. */
public final class ReadTest {
    private static final Check CHECK = new Check();

    /** One glyph, one contour, one point at 3, 4 that is on: plain it has 6 bytes. */
    private static final int[] STREAM = {1, 1, 1, 23, 0x23, 7};
    private static final int[] HEAD = {119, 50, 2, 64, 6, 5, 65, 4, 1, 6};

    public static void main(String[] args) {
        readsFonts();
        readsOtherWritings();
        readsStepsOfAllWays();
        failsInStageOne();
        failsInStageTwo();
        failsInStageThree();
        failsInStageThreeForTheirNumber();
        failsInStageFour();
        failsInTheFirstStage();
        keepsStages();
        CHECK.finish();
    }

    private static int[] packed(int[] head, int... stream) {
        return Check.join(head, Check.bits(Check.literal(stream)));
    }

    /** A packed font of tables 0 and 1, with their lengths as the stream has them. */
    private static int[] glyphs(int plainLength, int plainAdvances, int[] outlines, int... advances) {
        int together = outlines.length + advances.length;
        return packed(Check.row(119, 50, 2, 64, plainLength, outlines.length, 65, plainAdvances,
                advances.length, together), Check.join(outlines, advances));
    }

    private static FontPacker read(String what, int tables, int... bytes) {
        FontPacker x = new FontPacker();
        x.glyph(1);
        x.glyph(2);
        x.table(3, 9, 1);
        Check.load(x, bytes);
        CHECK.answers(what, tables, x::read);
        CHECK.answers(what + ": stage", 0, x::stage);
        CHECK.buffer(what + ": the buffer is left", x, bytes);
        return x;
    }

    private static void outline(String what, FontPacker x, int g, int[]... points) {
        CHECK.answers(what + ": points", points.length, () -> x.count(g));
        for (int p = 0; p < points.length; p++) {
            for (int asked = 0; asked < 4; asked++) {
                int point = p;
                int k = asked;
                CHECK.answers(what + ": outline(" + g + ", " + p + ", " + k + ")", points[p][k],
                        () -> x.outline(g, point, k));
            }
        }
    }

    private static void readsFonts() {
        FontPacker none = read("no tables", 0, 119, 50, 0, 0);
        CHECK.answers("no glyphs are left", 0, () -> none.count(-1));
        CHECK.answers("no tables are left", 1, none::plain);

        FontPacker one = read("one glyph", 2, packed(HEAD, STREAM));
        CHECK.answers("one glyph", 1, () -> one.count(-1));
        outline("one glyph", one, 0, Check.row(3, 4, 1, 0));
        one.plain();
        CHECK.buffer("one glyph, plain", one, 2, 0, 5, 0, 55, 3, 0, 19, 0, 6, 1, 0, 7, 0, 0, 0, 27, 0, 4,
                1, 0, 55, 3, 4, 0, 0, 0, 0, 7, 0, 0);

        FontPacker table = read("one table", 1, packed(Check.row(119, 50, 1, 5, 2, 2), 8, 9));
        CHECK.answers("the glyphs are gone", 0, () -> table.count(-1));
        CHECK.answers("table 5 is there", 3, () -> table.table(5, 0, 1));
        CHECK.answers("table 3 is gone", 1, () -> table.table(3, 0, 1));

        FontPacker all = new FontPacker();
        Samples.largest(all);
        all.pack();
        FontPacker copy = read("the largest", 7, Check.bytesOf(all));
        all.plain();
        copy.plain();
        CHECK.buffer("the largest", copy, Check.bytesOf(all));
    }

    private static void readsOtherWritings() {
        FontPacker x = read("short numbers written long", 2,
                glyphs(6, 4, Check.row(1, 1, 253, 0, 1, 23, 0x23), 253, 0, 7));
        outline("short numbers written long", x, 0, Check.row(3, 4, 1, 0));
        x.pack();
        CHECK.buffer("and written short again", x, packed(HEAD, STREAM));
        FontPacker y = read("508 as 255 and 255", 2, glyphs(0, 4, Check.row(1, 0), 255, 255));
        y.pack();
        CHECK.buffer("508 as 254 and 2", y, glyphs(0, 4, Check.row(1, 0), 254, 2));
        y = read("506 as 254 and 0, 761 as 254 and 255", 2, glyphs(0, 8, Check.row(2, 0, 0), 254, 0, 254, 255));
        y.plain();
        CHECK.buffer("506 and 761", y, 2, 0, 0, 0, 0, 0, 0, 19, 0, 0, 1, 4, 243, 0, 0, 0, 19, 0, 8,
                1, 250, 0, 0, 2, 249, 0, 0);
        y = read("2000", 2, glyphs(0, 4, Check.row(1, 0), 253, 7, 208));
        CHECK.answers("2000 is kept", 23, y::plain);

        read("bits one by one", 1, packed(Check.row(119, 50, 1, 2, 6, 6), 9, 9, 9, 9, 9, 9));
        FontPacker z = read("another row", 1, Check.join(Check.row(119, 50, 1, 2, 6, 6),
                Check.bits(Check.literal(9, 9) + "1 010 010")));
        z.pack();
        CHECK.buffer("the row that is due", z, Check.join(Check.row(119, 50, 1, 2, 6, 6),
                Check.bits(Check.literal(9) + "1 011 1")));
        FontPacker longest = read("the longest writing", 2, longestWriting());
        CHECK.answers("all its points", 16, () -> longest.count(5));
    }

    /** Six glyphs of four contours, whose numbers and steps of 0, 0 are written as long as can be. */
    private static int[] longestWriting() {
        int[] counts = {6, 4, 4, 4, 4, 4, 4};
        int[] sizes = new int[24 * 3];
        int[] signs = new int[96];
        int[] advances = new int[6 * 3];
        for (int c = 0; c < 24; c++) {
            sizes[3 * c] = 253;
            sizes[3 * c + 2] = 4;
        }
        Arrays.fill(signs, 127);
        for (int g = 0; g < 6; g++) {
            advances[3 * g] = 253;
        }
        int[] outlines = Check.join(counts, sizes, signs, new int[96 * 4]);
        int together = outlines.length + advances.length;
        return packed(Check.row(119, 50, 2, 64, 6 * 8, 128 + outlines.length / 128, outlines.length % 128,
                65, 24, 18, 128 + together / 128, together % 128), Check.join(outlines, advances));
    }

    /** Tables 0 and 1 of zeros alone, with so many bytes together. */
    private static int[] zeros(int together) {
        int outlines = together - 2;
        return Check.join(Check.row(119, 50, 2, 64, 6, 128 + outlines / 128, outlines % 128, 65, 4, 2,
                128 + together / 128, together % 128),
                Check.bits(Check.literal(0) + "1" + Reference.gamma(together - 3) + "1"));
    }

    private static void step(String what, int sign, int[] details, int x, int y) {
        // The plain length of the one point is found by writing the point itself.
        FontPacker written = new FontPacker();
        written.glyph(7);
        written.contour();
        written.point(x, y, sign < 128);
        written.plain();
        int length = written.at(8) * 256 + written.at(9);
        FontPacker read = read(what, 2,
                glyphs(length, 4, Check.join(Check.row(1, 1, 1, sign), details), 7));
        outline(what, read, 0, Check.row(x, y, sign < 128 ? 1 : 0, 0));
    }

    private static void readsStepsOfAllWays() {
        step("way 1, -0", 0, Check.row(0), 0, 0);
        step("way 1, -0 and off", 128, Check.row(0), 0, 0);
        step("way 1, the last", 9, Check.row(255), 0, 1279);
        step("way 1, off", 128 + 6, Check.row(1), 0, -769);
        step("way 2, -0", 10, Check.row(0), 0, 0);
        step("way 2, the last", 19, Check.row(255), 1279, 0);
        step("way 2, below 0", 18, Check.row(0), -1024, 0);
        step("way 3, the first", 20, Check.row(0), -1, -1);
        step("way 3, the last", 83, Check.row(255), 64, 64);
        step("way 3, x above 0", 20 + 32 + 4 + 1, Check.row(0x5A), 38, -27);
        step("way 3, y above 0", 128 + 20 + 16 + 8 + 2, Check.row(0xA5), -27, 38);
        step("way 4, the first", 84, Check.row(0, 0), -1, -1);
        step("way 4, the last", 119, Check.row(255, 255), 768, 768);
        step("way 4, the middle", 84 + 12 + 8 + 1, Check.row(5, 6), 262, -519);
        step("way 5, nothing", 120, Check.row(0, 0, 0), 0, 0);
        step("way 5, small", 123, Check.row(0, 16, 1), 1, 1);
        step("way 5, far", 122, Check.row(250, 15, 160), -4000, 4000);
        step("way 6, nothing", 124, Check.row(0, 0, 0, 0), 0, 0);
        step("way 6, small", 125, Check.row(0, 1, 0, 2), 1, -2);
        step("way 6, far", 254, Check.row(15, 160, 15, 160), -4000, 4000);
        readsAllSigns(3, 1, 16, 17, 32, 33, 48, 49, 64);
        readsAllSigns(4, 1, 256, 257, 512, 513, 768);
    }

    /** The sizes are the ends of what belongs to one sign: both axes have all of them, with all signs. */
    private static void readsAllSigns(int way, int... sizes) {
        for (int a : sizes) {
            for (int b : sizes) {
                for (int signs = 0; signs < 4; signs++) {
                    int dx = signs % 2 == 1 ? a : -a;
                    int dy = signs / 2 == 1 ? b : -b;
                    int[] bytes = Reference.stepBytes(way, dx, dy, signs % 2, signs / 2, true).stream()
                            .mapToInt(Integer::intValue).toArray();
                    step("way " + way + ": " + dx + ", " + dy, bytes[0],
                            Arrays.copyOfRange(bytes, 1, bytes.length), dx, dy);
                }
            }
        }
    }

    private static void stageOne(String what, int... bytes) {
        CHECK.failsInStage(what, 1, bytes);
    }

    private static void failsInStageOne() {
        int[] whole = packed(HEAD, STREAM);
        for (int n = 0; n < HEAD.length; n++) {
            stageOne("only " + n + " bytes", Arrays.copyOf(whole, n));
        }
        stageOne("no stream's length behind no tables", 119, 50, 0);
        stageOne("no number of tables", 119, 50);
        stageOne("118", 118, 50, 0, 0);
        stageOne("51", 119, 51, 0, 0);
        stageOne("a stream's length with no tables", 119, 50, 0, 1, 0, 0);
        stageOne("0 without 64", packed(Check.row(119, 50, 2, 0, 6, 5, 65, 4, 1, 6), STREAM));
        stageOne("1 without 64", packed(Check.row(119, 50, 2, 64, 6, 5, 1, 4, 1, 6), STREAM));
        stageOne("1 without 64, and one length", packed(Check.row(119, 50, 2, 64, 6, 5, 1, 1, 6), STREAM));
        stageOne("2 with 64", packed(Check.row(119, 50, 1, 66, 1, 1), 9));
        stageOne("2 with 64, and two lengths", packed(Check.row(119, 50, 1, 66, 1, 1, 1), 9));
        stageOne("2 with 128", packed(Check.row(119, 50, 1, 130, 1, 1), 9));
        stageOne("7 without bytes in the stream", 119, 50, 1, 7, 1, 0);
        stageOne("7", packed(Check.row(119, 50, 1, 7, 1, 1), 9));
        stageOne("the same number twice", packed(Check.row(119, 50, 2, 2, 1, 2, 1, 2), 9, 9));
        stageOne("falling numbers", packed(Check.row(119, 50, 2, 3, 1, 2, 1, 2), 9, 9));
        stageOne("1 before 0", packed(Check.row(119, 50, 2, 65, 4, 1, 64, 6, 5, 6), STREAM));
        stageOne("2 before 0", packed(Check.row(119, 50, 3, 2, 1, 64, 6, 5, 65, 4, 1, 7), 9, 1, 1, 1, 23, 0x23, 7));
        stageOne("0 without 1", packed(Check.row(119, 50, 1, 64, 6, 5, 5), 1, 1, 1, 23, 0x23));
        stageOne("1 without 0", packed(Check.row(119, 50, 1, 65, 4, 1, 1), 7));
        stageOne("an empty 1 without 0", 119, 50, 1, 65, 0, 0, 0);
        stageOne("an empty 0 without 1", 119, 50, 1, 64, 0, 0, 0);
        stageOne("a table of 0", packed(Check.row(119, 50, 2, 2, 0, 3, 1, 1), 9));
        stageOne("a table of 21", packed(Check.row(119, 50, 1, 2, 21, 21), new int[21]));
        stageOne("a table more than said", packed(Check.row(119, 50, 1, 2, 1, 3, 1, 2), 9, 9));
        stageOne("a table less than said", packed(Check.row(119, 50, 2, 2, 1, 1), 9));
        stageOne("255 tables", packed(Check.row(119, 50, 255, 2, 1, 1), 9));
        stageOne("a stream's length too small", packed(Check.row(119, 50, 1, 2, 2, 1), 9, 9));
        stageOne("a stream's length too great", packed(Check.row(119, 50, 1, 2, 2, 3), 9, 9));
        stageOne("128 first", packed(Check.row(119, 50, 1, 2, 128, 1, 1), 9));
        stageOne("128 first in the stream's length", packed(Check.row(119, 50, 1, 2, 1, 128, 1), 9));
        stageOne("128 first for a length of 0", packed(Check.row(119, 50, 2, 64, 128, 6, 5, 65, 4, 1, 6), STREAM));
        stageOne("a long number of 4", packed(Check.row(119, 50, 2, 64, 129, 128, 128, 6, 5, 65, 4, 1, 6), STREAM));
        stageOne("a long number that ends", 119, 50, 2, 64, 129);
        stageOne("a stream of 1001", zeros(1001));
        CHECK.failsInStage("a stream of 1000", 3, zeros(1000));
    }

    private static void stageTwo(String what, String bits, int length) {
        CHECK.failsInStage(what, 2, Check.join(Check.row(119, 50, 1, 2, length, length), Check.bits(bits)));
    }

    private static void failsInStageTwo() {
        int[] whole = packed(HEAD, STREAM);
        for (int n = HEAD.length; n < whole.length; n++) {
            CHECK.failsInStage("only " + n + " bytes", 2, Arrays.copyOf(whole, n));
        }
        CHECK.failsInStage("a byte left", 2, Check.join(whole, Check.row(0)));
        CHECK.failsInStage("a byte left behind no stream", 2, 119, 50, 0, 0, 0);
        stageTwo("a bit 1 left at the end", Check.literal(9) + "0000001", 1);
        stageTwo("a bit 1 left at once", Check.literal(9) + "1000000", 1);
        stageTwo("a byte left behind whole bytes",
                Check.literal(1, 2, 3, 4, 5, 6, 7, 8) + "00000000", 8);
        read("no bit left", 1, packed(Check.row(119, 50, 1, 2, 8, 8), 1, 2, 3, 4, 5, 6, 7, 8));
        stageTwo("a row at the beginning", "1 1 1 00000", 3);
        stageTwo("a d beyond the beginning", Check.literal(9) + "1 1 010", 4);
        read("a d to the beginning", 1, Check.join(Check.row(119, 50, 1, 2, 4, 4),
                Check.bits(Check.literal(9) + "1 1 1")));
        stageTwo("more bytes than there are to be", Check.literal(9) + "1 010 1", 4);
        stageTwo("more bytes than said by far", Check.literal(9) + "1 0000000000000001000000000000000 1", 4);
        stageTwo("a gamma number of 65536", Check.literal(9) + "1 000000000000000010000000000000000 1", 4);
        stageTwo("a d of 65536", Check.literal(9) + "1 1 000000000000000010000000000000000", 4);
        stageTwo("zeros without end", Check.literal(9) + "1" + "0".repeat(200), 4);
        stageTwo("a gamma number that ends", Check.literal(9) + "1 0000001", 4);
        stageTwo("a byte that ends", "0 1111111", 1);
    }

    private static void stageThree(String what, int[] outlines, int... advances) {
        // A length in the plain font that no font has: stage 4 comes behind stage 3.
        CHECK.failsInStage(what, 3, glyphs(1, 4, outlines, advances));
    }

    private static void failsInStageThree() {
        stageThree("no bytes", Check.row());
        stageThree("no bytes, but advances", Check.row(), 7);
        stageThree("no glyphs", Check.row(0));
        stageThree("no glyphs, but advances", Check.row(0), 7);
        stageThree("seven glyphs", Check.row(7, 0, 0, 0, 0, 0, 0, 0), 1, 1, 1, 1, 1, 1, 1);
        stageThree("contours missing", Check.row(2, 0), 1, 1);
        stageThree("contours missing, with an advance that fits", Check.row(2), 0, 0);
        stageThree("five contours", Check.row(1, 5, 1, 1, 1, 1, 1, 1, 1, 1, 1, 1, 0, 0, 0, 0, 0), 7);
        stageThree("sizes missing", Check.row(1, 1), 7);
        stageThree("a size that ends", Check.row(1, 1, 253, 0), 7);
        stageThree("a contour of no points", Check.row(1, 1, 0), 7);
        stageThree("a contour of no points behind another", Check.row(1, 2, 1, 0, 23, 0), 7);
        stageThree("a contour of no points, written long", Check.row(1, 1, 253, 0, 0), 7);
        stageThree("signs missing", Check.row(1, 1, 1), 7);
        stageThree("signs missing for one", Check.row(1, 1, 2, 1), 7);
        stageThree("details missing", Check.row(1, 1, 1, 23), 7);
        stageThree("one detail missing", Check.row(1, 1, 1, 127, 0, 0, 0), 7);
        stageThree("something left of the outlines", Check.row(1, 1, 1, 23, 0, 0), 7);
        stageThree("something left of no outlines", Check.row(1, 0, 0), 7);
        stageThree("an x too great", Check.row(1, 1, 1, 127, 15, 161, 0, 0), 7);
        stageThree("an x too small", Check.row(1, 1, 1, 126, 15, 161, 0, 0), 7);
        stageThree("a y too great", Check.row(1, 1, 1, 127, 0, 0, 15, 161), 7);
        stageThree("a y too small", Check.row(1, 1, 1, 125, 0, 0, 15, 161), 7);
        stageThree("the farthest step", Check.row(1, 1, 1, 127, 255, 255, 255, 255), 7);
        stageThree("too far between", Check.row(1, 1, 3, 127, 11, 10, 15, 160, 0, 0, 1, 1), 7);
        stageThree("no advance", Check.row(1, 0));
        stageThree("two advances for one glyph", Check.row(1, 0), 1, 2);
        stageThree("one advance for two glyphs", Check.row(2, 0, 0), 1);
        stageThree("an advance that ends", Check.row(1, 0), 255);
        stageThree("an advance that ends in its last byte", Check.row(1, 0), 253, 1);
        stageThree("an advance of 2001", Check.row(1, 0), 253, 7, 209);
        stageThree("an advance of 65535", Check.row(1, 0), 253, 255, 255);
    }

    private static void failsInStageThreeForTheirNumber() {
        int[] seventeen = new int[3 + 17 * 2];
        seventeen[0] = 1;
        seventeen[1] = 1;
        seventeen[2] = 17;
        stageThree("seventeen points", seventeen, 7);
        int[] together = new int[4 + 17 * 2];
        together[0] = 1;
        together[1] = 2;
        together[2] = 16;
        together[3] = 1;
        stageThree("seventeen points together", together, 7);
        int[] sixteen = new int[4 + 16 * 2];
        sixteen[0] = 1;
        sixteen[1] = 2;
        sixteen[2] = 15;
        sixteen[3] = 1;
        FontPacker x = read("sixteen points together", 2, glyphs(6, 4, sixteen, 7));
        CHECK.answers("sixteen points", 16, () -> x.count(0));
        CHECK.answers("the last one's contour", 1, () -> x.outline(0, 15, 3));
        stageThree("65535 points", Check.row(1, 1, 253, 255, 255), 7);
        // A table 2 behind them does not lend its bytes to the advances.
        CHECK.failsInStage("an advance in table 2", 3,
                packed(Check.row(119, 50, 3, 64, 0, 2, 65, 4, 1, 2, 1, 4), 1, 0, 255, 0));
        CHECK.failsInStage("a detail in table 1", 3,
                packed(Check.row(119, 50, 2, 64, 6, 4, 65, 4, 2, 6), STREAM));
    }

    private static void failsInStageFour() {
        CHECK.failsInStage("outlines said too long", 4, glyphs(8, 4, Check.row(1, 1, 1, 23, 0x23), 7));
        CHECK.failsInStage("outlines without the byte that makes them even", 4,
                glyphs(5, 4, Check.row(1, 1, 1, 23, 0x23), 7));
        CHECK.failsInStage("outlines said to have none", 4, glyphs(0, 4, Check.row(1, 1, 1, 23, 0x23), 7));
        CHECK.failsInStage("advances said too long", 4, glyphs(6, 5, Check.row(1, 1, 1, 23, 0x23), 7));
        CHECK.failsInStage("advances said as in the stream", 4, glyphs(6, 1, Check.row(1, 1, 1, 23, 0x23), 7));
        CHECK.failsInStage("outlines said by far too long", 4,
                packed(Check.row(119, 50, 2, 64, 255, 255, 127, 5, 65, 4, 1, 6), STREAM));
        CHECK.failsInStage("outlines said to have 16384", 4,
                packed(Check.row(119, 50, 2, 64, 129, 128, 0, 5, 65, 4, 1, 6), STREAM));
        CHECK.failsInStage("no outlines said to have some", 4, glyphs(2, 4, Check.row(1, 0), 7));
        read("no outlines", 2, glyphs(0, 4, Check.row(1, 0), 7));
    }

    private static void failsInTheFirstStage() {
        stageOne("1 and 2", 119, 50, 1, 2, 0, 0, 255);
        CHECK.failsInStage("2 and 3", 2, 119, 50, 2, 64, 6, 1, 65, 4, 1, 2, 0, 0, 1);
        CHECK.failsInStage("2 and 4", 2, Check.join(packed(Check.row(119, 50, 2, 64, 9, 5, 65, 4, 1, 6), STREAM),
                Check.row(0)));
        CHECK.failsInStage("3 and 4", 3, glyphs(9, 9, Check.row(1, 1, 1, 23, 0x23), 7, 8));
    }

    private static void keepsStages() {
        FontPacker x = new FontPacker();
        CHECK.answers("no reading yet", 0, x::stage);
        CHECK.badArgument("an empty buffer", x::read);
        CHECK.answers("it failed", 1, x::stage);
        x.glyph(1);
        x.pack();
        CHECK.answers("other calls leave the stage", 1, x::stage);
        x.set(4, 1);
        CHECK.badArgument("a wrong length", x::read);
        CHECK.answers("the latest reading counts", 4, x::stage);
        x.set(4, 0);
        CHECK.answers("the length is mended", 2, x::read);
        CHECK.answers("it did not fail", 0, x::stage);
        CHECK.answers("reading again", 2, x::read);
    }
}
