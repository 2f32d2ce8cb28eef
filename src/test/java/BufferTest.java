import java.util.Arrays;

/** Promises 11 to 14: put, set, cut, at. */
public final class BufferTest {
    private static final Check CHECK = new Check();

    public static void main(String[] args) {
        put();
        set();
        cut();
        at();
        CHECK.finish();
    }

    private static void put() {
        CHECK.sentence("Promise 11", "n bytes (1 .. 8) more in the buffer", BufferTest::putsBehind);
        CHECK.sentence("Promise 11", "(as for table)", BufferTest::ordersBytes);
        CHECK.sentence("Promise 11", "n is not as said", BufferTest::refusesNumbersOfBytes);
        CHECK.sentence("Promise 11", "it would have more than 1500", BufferTest::refusesMoreThanThereMayBe);
        CHECK.sentence("Promise 11", "IllegalArgumentException: n is not as said; IllegalStateException",
                BufferTest::looksAtTheNumberFirst);
    }

    private static void set() {
        CHECK.sentence("Promise 12", "Byte k of the buffer becomes b (0 .. 255)", BufferTest::setsBytes);
        CHECK.sentence("Promise 12", "there is no such byte", BufferTest::refusesPlacesToSet);
        CHECK.sentence("Promise 12", "b is not so", BufferTest::refusesBytesToSet);
        CHECK.sentence("Promise 12", "IndexOutOfBoundsException: there is no such byte; IllegalArgumentException",
                BufferTest::looksAtThePlaceFirst);
    }

    private static void cut() {
        CHECK.sentence("Promise 13", "Only the first n bytes of the buffer are left", BufferTest::cuts);
        CHECK.sentence("Promise 13", "n is below 0", BufferTest::refusesToCutBelowZero);
        CHECK.sentence("Promise 13", "or there are not so many", BufferTest::refusesToCutToMore);
    }

    private static void at() {
        CHECK.sentence("Promise 14", "Byte k of the buffer", BufferTest::tellsBytes);
        CHECK.sentence("Promise 14", "k = -1: its length", BufferTest::tellsTheLength);
        CHECK.sentence("Promise 14", "there is no such byte", BufferTest::refusesPlacesToAsk);
    }

    private static void threeBytes(FontPacker x) {
        x.put(0x010203, 3);
    }

    private static void putsBehind() {
        FontPacker x = new FontPacker();
        CHECK.answers("one byte", 1, () -> x.put(0x1234, 1));
        CHECK.answers("eight bytes", 9, () -> x.put(0xFFEEDDCCBBAA9988L, 8));
        CHECK.buffer("both", x, 0x34, 0xFF, 0xEE, 0xDD, 0xCC, 0xBB, 0xAA, 0x99, 0x88);
        x.pack();
        CHECK.answers("behind a packed font", 5, () -> x.put(7, 1));
        CHECK.buffer("behind a packed font", x, 119, 50, 0, 0, 7);
        x.plain();
        CHECK.answers("behind a plain font", 2, () -> x.put(8, 1));
        CHECK.buffer("behind a plain font", x, 0, 8);
        CHECK.answers("the font is left", 0, () -> x.count(-1));
    }

    private static void ordersBytes() {
        int[] all = {0xFF, 0x80, 0x7F, 0x01, 0x00, 0xFE, 0x81, 0x02};
        for (int n = 1; n <= 8; n++) {
            int bytes = n;
            FontPacker x = new FontPacker();
            CHECK.answers(n + " bytes", n, () -> x.put(0xFF807F0100FE8102L, bytes));
            for (int k = 0; k < n; k++) {
                CHECK.bytes(n + " bytes", x, k, all[8 - n + k]);
            }
        }
        FontPacker y = new FontPacker();
        y.put(-1, 8);
        y.put(Long.MIN_VALUE, 8);
        CHECK.buffer("-1 and the least long", y, 255, 255, 255, 255, 255, 255, 255, 255, 128, 0, 0, 0, 0, 0, 0, 0);
    }

    private static void refusesNumbersOfBytes() {
        for (int n : Check.join(Check.row(-8, -1, 0, 9, 16), Samples.FAR_AWAY)) {
            CHECK.badArgument("n " + n, Samples::something, x -> x.put(1, n));
            CHECK.badArgument("n " + n + " in an empty buffer", Samples::nothing, x -> x.put(1, n));
        }
    }

    private static void refusesMoreThanThereMayBe() {
        for (int n = 1; n <= 8; n++) {
            int more = n;
            CHECK.answers("1500 with the latest " + n, 1500, () -> {
                FontPacker x = new FontPacker();
                Samples.fullBuffer(x);
                x.cut(1500 - more);
                return x.put(0, more);
            });
            CHECK.badState("1501 with the latest " + n, x -> {
                Samples.fullBuffer(x);
                x.cut(1501 - more);
            }, x -> x.put(0, more));
            CHECK.badState(n + " more in a full buffer", Samples::fullBuffer, x -> x.put(0, more));
        }
        FontPacker x = new FontPacker();
        Samples.almostFullBuffer(x);
        CHECK.answers("up to 1500", 1500, () -> x.put(0x01020304, 4));
        CHECK.bytes("the last ones", x, 1496, 1, 2, 3, 4);
        x.cut(1499);
        CHECK.answers("1500 again", 1500, () -> x.put(9, 1));
        CHECK.bytes("the last one", x, 1499, 9);
    }

    private static void looksAtTheNumberFirst() {
        CHECK.badArgument("nine in a full buffer", Samples::fullBuffer, x -> x.put(0, 9));
        CHECK.badArgument("none in a full buffer", Samples::fullBuffer, x -> x.put(0, 0));
    }

    private static void setsBytes() {
        for (int b : Check.row(0, 1, 127, 128, 254, 255)) {
            for (int k = 0; k < 3; k++) {
                FontPacker x = new FontPacker();
                threeBytes(x);
                x.set(k, b);
                CHECK.buffer("byte " + k, x, k == 0 ? b : 1, k == 1 ? b : 2, k == 2 ? b : 3);
            }
        }
        FontPacker full = new FontPacker();
        Samples.fullBuffer(full);
        full.set(1499, 77);
        CHECK.bytes("the last byte of a full buffer", full, 1498, 0xFD, 77);
        CHECK.answers("its length", 1500, () -> full.at(-1));
    }

    private static void refusesPlacesToSet() {
        for (int k : Check.join(Check.row(-2, -1, 5, 6, 1499, 1500), Samples.FAR_AWAY)) {
            CHECK.badIndex("byte " + k + " of five", Samples::something, x -> x.set(k, 0));
        }
        CHECK.badIndex("byte 0 of none", Samples::nothing, x -> x.set(0, 0));
        CHECK.badIndex("byte 1500 of 1500", Samples::fullBuffer, x -> x.set(1500, 0));
        CHECK.badIndex("a byte that was cut off", x -> {
            threeBytes(x);
            x.cut(2);
        }, x -> x.set(2, 0));
    }

    private static void refusesBytesToSet() {
        for (int b : Check.join(Check.row(-1, 256, 257), Samples.FAR_AWAY)) {
            CHECK.badArgument("to " + b, Samples::something, x -> x.set(4, b));
        }
    }

    private static void looksAtThePlaceFirst() {
        CHECK.badIndex("behind the end", BufferTest::threeBytes, x -> x.set(3, 256));
        CHECK.badIndex("before the beginning", BufferTest::threeBytes, x -> x.set(-1, -1));
        CHECK.badIndex("of no bytes", Samples::nothing, x -> x.set(0, 256));
    }

    private static void cuts() {
        for (int n = 0; n <= 3; n++) {
            FontPacker x = new FontPacker();
            threeBytes(x);
            x.cut(n);
            CHECK.buffer("to " + n, x, Arrays.copyOf(Check.row(1, 2, 3), n));
            x.put(9, 1);
            CHECK.bytes("put behind a cut to " + n, x, n, 9);
        }
        FontPacker empty = new FontPacker();
        empty.cut(0);
        CHECK.buffer("an empty buffer to 0", empty);
        FontPacker full = new FontPacker();
        Samples.fullBuffer(full);
        full.cut(1500);
        CHECK.answers("a full buffer to 1500", 1500, () -> full.at(-1));
        full.cut(0);
        CHECK.answers("a full buffer to 0", 0, () -> full.at(-1));
        FontPacker font = new FontPacker();
        Samples.something(font);
        font.cut(0);
        CHECK.answers("the font is left", 1, () -> font.count(0));
        CHECK.answers("the stage is left", 1, font::stage);
    }

    private static void refusesToCutBelowZero() {
        for (int n : Check.row(-1, -2, -256, -65536, Integer.MIN_VALUE, Integer.MIN_VALUE + 1)) {
            CHECK.badArgument("to " + n, Samples::something, x -> x.cut(n));
            CHECK.badArgument("an empty buffer to " + n, Samples::nothing, x -> x.cut(n));
        }
    }

    private static void refusesToCutToMore() {
        for (int n : Check.row(6, 7, 1500, 1501, 65536, 65537, Integer.MAX_VALUE)) {
            CHECK.badArgument("five bytes to " + n, Samples::something, x -> x.cut(n));
        }
        CHECK.badArgument("an empty buffer to 1", Samples::nothing, x -> x.cut(1));
        CHECK.badArgument("a full buffer to 1501", Samples::fullBuffer, x -> x.cut(1501));
        CHECK.badArgument("to as many as there were", x -> {
            threeBytes(x);
            x.cut(2);
        }, x -> x.cut(3));
    }

    private static void tellsBytes() {
        FontPacker x = new FontPacker();
        x.put(0x007F80FF, 4);
        CHECK.buffer("four", x, 0, 127, 128, 255);
        FontPacker full = new FontPacker();
        Samples.fullBuffer(full);
        CHECK.bytes("the first of a full buffer", full, 0, 0);
        CHECK.bytes("the last of a full buffer", full, 1499, 0xFC);
    }

    private static void tellsTheLength() {
        FontPacker x = new FontPacker();
        CHECK.answers("empty", 0, () -> x.at(-1));
        x.put(0, 1);
        CHECK.answers("one", 1, () -> x.at(-1));
        x.pack();
        CHECK.answers("packed", 4, () -> x.at(-1));
        x.cut(0);
        CHECK.answers("cut", 0, () -> x.at(-1));
        Samples.fullBuffer(x);
        CHECK.answers("full", 1500, () -> x.at(-1));
    }

    private static void refusesPlacesToAsk() {
        for (int k : Check.join(Check.row(-3, -2, 5, 6, 1499, 1500), Samples.FAR_AWAY)) {
            CHECK.badIndex("byte " + k + " of five", Samples::something, x -> x.at(k));
        }
        CHECK.badIndex("byte 0 of none", Samples::nothing, x -> x.at(0));
        CHECK.badIndex("byte 1500 of 1500", Samples::fullBuffer, x -> x.at(1500));
        CHECK.badIndex("a byte that was cut off", x -> {
            threeBytes(x);
            x.cut(2);
        }, x -> x.at(2));
    }
}
