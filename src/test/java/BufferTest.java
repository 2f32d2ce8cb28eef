/** Promises 11 to 14: put, set, cut, at. */
public final class BufferTest {
    private static final Check CHECK = new Check();

    public static void main(String[] args) {
        puts();
        putsUpToTheLimit();
        sets();
        cuts();
        asksForBytes();
        CHECK.finish();
    }

    private static void puts() {
        FontPacker x = new FontPacker();
        CHECK.answers("put of one byte", 1, () -> x.put(0x1234, 1));
        CHECK.answers("put of three bytes", 4, () -> x.put(0x7766554433L, 3));
        CHECK.answers("put of eight bytes", 12, () -> x.put(0xFFEEDDCCBBAA9988L, 8));
        CHECK.answers("put of -1", 14, () -> x.put(-1, 2));
        CHECK.buffer("put", x, 0x34, 0x55, 0x44, 0x33,
                0xFF, 0xEE, 0xDD, 0xCC, 0xBB, 0xAA, 0x99, 0x88, 255, 255);
        CHECK.badArgument("put of no byte", () -> x.put(1, 0));
        CHECK.badArgument("put of nine bytes", () -> x.put(1, 9));
        CHECK.badArgument("put of -1 bytes", () -> x.put(1, -1));
        CHECK.badArgument("put of the least int", () -> x.put(1, Integer.MIN_VALUE));
        CHECK.badArgument("put of the greatest int", () -> x.put(1, Integer.MAX_VALUE));
        CHECK.answers("length behind refused puts", 14, () -> x.at(-1));
    }

    private static void putsUpToTheLimit() {
        FontPacker x = new FontPacker();
        for (int k = 0; k < 187; k++) {
            x.put(k, 8);
        }
        CHECK.badState("put beyond 1500 by one", () -> x.put(0, 5));
        CHECK.badArgument("the argument is looked at first", () -> x.put(0, 9));
        CHECK.answers("length behind a refused put", 1496, () -> x.at(-1));
        CHECK.answers("put up to 1500", 1500, () -> x.put(0x01020304, 4));
        CHECK.badState("put into a full buffer", () -> x.put(0, 1));
        CHECK.answers("the last byte", 4, () -> x.at(1499));
        CHECK.badIndex("behind the last byte", () -> x.at(1500));
    }

    private static void sets() {
        FontPacker x = new FontPacker();
        CHECK.badIndex("set in an empty buffer", () -> set(x, 0, 0));
        x.put(0x010203, 3);
        CHECK.answers("set of the first", 0, () -> set(x, 0, 255));
        CHECK.answers("set of the last", 0, () -> set(x, 2, 0));
        CHECK.buffer("set", x, 255, 2, 0);
        CHECK.badIndex("set behind the end", () -> set(x, 3, 0));
        CHECK.badIndex("set of -1", () -> set(x, -1, 0));
        CHECK.badIndex("set far away", () -> set(x, Integer.MAX_VALUE, 0));
        CHECK.badArgument("set to 256", () -> set(x, 0, 256));
        CHECK.badArgument("set to -1", () -> set(x, 0, -1));
        CHECK.badIndex("the index is looked at first", () -> set(x, 3, 256));
        CHECK.buffer("refused sets", x, 255, 2, 0);
    }

    private static void cuts() {
        FontPacker x = new FontPacker();
        CHECK.answers("cut of nothing", 0, () -> cut(x, 0));
        CHECK.badArgument("cut of an empty buffer to 1", () -> cut(x, 1));
        x.put(0x010203, 3);
        CHECK.badArgument("cut to more", () -> cut(x, 4));
        CHECK.badArgument("cut to -1", () -> cut(x, -1));
        CHECK.answers("cut to all", 0, () -> cut(x, 3));
        CHECK.buffer("cut to all", x, 1, 2, 3);
        CHECK.answers("cut to two", 0, () -> cut(x, 2));
        CHECK.buffer("cut to two", x, 1, 2);
        CHECK.badIndex("set of what was cut off", () -> set(x, 2, 0));
        x.put(9, 1);
        CHECK.buffer("put behind a cut", x, 1, 2, 9);
        CHECK.answers("cut to none", 0, () -> cut(x, 0));
        CHECK.buffer("cut to none", x);
    }

    private static void asksForBytes() {
        FontPacker x = new FontPacker();
        CHECK.answers("length of a new buffer", 0, () -> x.at(-1));
        CHECK.badIndex("a byte of a new buffer", () -> x.at(0));
        x.put(0x80FF, 2);
        CHECK.answers("length", 2, () -> x.at(-1));
        CHECK.answers("a high byte", 128, () -> x.at(0));
        CHECK.answers("the highest byte", 255, () -> x.at(1));
        CHECK.badIndex("behind the end", () -> x.at(2));
        CHECK.badIndex("at -2", () -> x.at(-2));
        CHECK.badIndex("at the least int", () -> x.at(Integer.MIN_VALUE));
    }

    private static long set(FontPacker x, int k, int b) {
        x.set(k, b);
        return 0;
    }

    private static long cut(FontPacker x, int n) {
        x.cut(n);
        return 0;
    }
}
