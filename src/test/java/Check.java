import java.util.ArrayList;
import java.util.Arrays;
import java.util.List;
import java.util.function.Consumer;

/** Counts the answers of a test that are not the ones that are due, and tells them. */
final class Check {
    interface Call {
        long run();
    }

    /** With the calls that build an object this stays below the 512 that an object is good for. */
    private static final int ASKED_OF_ONE = 256;

    private int wrong = 0;
    private int asked = 0;
    private String sentence = "";

    /** What this test tells belongs to a sentence of the document: its section, and its words. */
    void sentence(String section, String words, Runnable test) {
        int before = asked;
        sentence = section + ", '" + words + "': ";
        try {
            test.run();
        } catch (RuntimeException e) {
            tell("the test ended with " + e);
        }
        if (asked == before) {
            tell("nothing was asked");
        }
        sentence = "";
    }

    void due(String what, long got, long want) {
        asked++;
        if (got != want) {
            tell(what + " answered " + got + ", due is " + want);
        }
    }

    void same(String what, Object got, Object want) {
        asked++;
        if (!got.equals(want)) {
            tell(what + " answered " + got + ", due is " + want);
        }
    }

    void answers(String what, long want, Call call) {
        try {
            due(what, call.run(), want);
        } catch (RuntimeException e) {
            tell(what + " threw " + e + ", due is " + want);
        }
    }

    /** The class has to be the very one: what the machine throws by itself is often a class below. */
    void fails(String what, Class<? extends RuntimeException> kind, Call call) {
        asked++;
        try {
            tell(what + " answered " + call.run() + ", due is " + kind.getSimpleName());
        } catch (RuntimeException e) {
            if (e.getClass() != kind) {
                tell(what + " threw " + e + ", due is " + kind.getSimpleName());
            }
        }
    }

    /** The call throws this behind the calls that build the object, and changes nothing at all. */
    private void refuses(Class<? extends RuntimeException> kind, String what, Consumer<FontPacker> build,
            Consumer<FontPacker> call) {
        fails(what, kind, () -> {
            call.accept(made(build));
            return 0;
        });
        same(what + " has changed something: it", stateBehind(build.andThen(x -> quietly(x, call))),
                stateBehind(build));
    }

    void badArgument(String what, Consumer<FontPacker> build, Consumer<FontPacker> call) {
        refuses(IllegalArgumentException.class, what, build, call);
    }

    void badState(String what, Consumer<FontPacker> build, Consumer<FontPacker> call) {
        refuses(IllegalStateException.class, what, build, call);
    }

    void badIndex(String what, Consumer<FontPacker> build, Consumer<FontPacker> call) {
        refuses(IndexOutOfBoundsException.class, what, build, call);
    }

    void buffer(String what, FontPacker packer, int... want) {
        asked++;
        int[] got = bytesOf(packer);
        if (!Arrays.equals(got, want)) {
            tell(what + ": the buffer is " + Arrays.toString(got) + ", due is " + Arrays.toString(want));
        }
    }

    /** The bytes of the buffer from a place on. */
    void bytes(String what, FontPacker packer, int place, int... want) {
        for (int k = 0; k < want.length; k++) {
            int at = place + k;
            answers(what + ": byte " + at, want[k], () -> packer.at(at));
        }
    }

    void tell(String text) {
        wrong++;
        System.out.println(sentence + text);
    }

    void finish() {
        System.out.println(asked + " answers, " + wrong + " wrong");
        if (wrong > 0 || asked == 0) {
            System.exit(1);
        }
    }

    static FontPacker made(Consumer<FontPacker> calls) {
        FontPacker packer = new FontPacker();
        calls.accept(packer);
        return packer;
    }

    private static void quietly(FontPacker packer, Consumer<FontPacker> call) {
        try {
            call.accept(packer);
        } catch (RuntimeException e) {
            // Only what is left behind the call is asked.
        }
    }

    /** All that an object tells behind these calls. */
    static String stateBehind(Consumer<FontPacker> calls) {
        return "stage " + made(calls).stage() + ", buffer " + bufferBehind(calls) + ", " + fontBehind(calls);
    }

    /** The plain font has all of a font; while a contour is empty, it gets a point for that. */
    static String fontBehind(Consumer<FontPacker> calls) {
        FontPacker packer = made(calls);
        try {
            packer.plain();
            return "font " + bufferBehind(calls.andThen(FontPacker::plain));
        } catch (IllegalStateException e) {
            Consumer<FontPacker> point = x -> x.point(1, 2, true);
            return "empty contour, font " + bufferBehind(calls.andThen(point).andThen(FontPacker::plain));
        }
    }

    /** Each part is asked of an object of its own, as none is good for as many calls as all of them. */
    static List<Integer> bufferBehind(Consumer<FontPacker> calls) {
        List<Integer> bytes = new ArrayList<>();
        FontPacker packer = made(calls);
        int length = packer.at(-1);
        for (int k = 0; k < length; k++) {
            if (k > 0 && k % ASKED_OF_ONE == 0) {
                packer = made(calls);
            }
            bytes.add(packer.at(k));
        }
        return bytes;
    }

    static int[] bytesOf(FontPacker packer) {
        int[] bytes = new int[packer.at(-1)];
        for (int k = 0; k < bytes.length; k++) {
            bytes[k] = packer.at(k);
        }
        return bytes;
    }

    /** Puts eight bytes with each call, as an object is good for 512 calls alone. */
    static void load(FontPacker packer, int... bytes) {
        packer.cut(0);
        for (int k = 0; k < bytes.length; k += 8) {
            int n = Math.min(8, bytes.length - k);
            long together = 0;
            for (int j = 0; j < n; j++) {
                together = together << 8 | bytes[k + j];
            }
            packer.put(together, n);
        }
    }

    /** Bytes of texts of bits (blanks between them are free), filled with zeros. */
    static int[] bits(String text) {
        String bare = text.replace(" ", "");
        int[] bytes = new int[(bare.length() + 7) / 8];
        for (int k = 0; k < bare.length(); k++) {
            if (bare.charAt(k) == '1') {
                bytes[k / 8] |= 128 >> k % 8;
            }
        }
        return bytes;
    }

    /** The bits of bytes that are written one by one, without a row that repeats. */
    static String literal(int... bytes) {
        StringBuilder text = new StringBuilder();
        for (int b : bytes) {
            text.append('0');
            for (int k = 7; k >= 0; k--) {
                text.append(b >> k & 1);
            }
        }
        return text.toString();
    }

    static int[] join(int[]... rows) {
        return Arrays.stream(rows).flatMapToInt(Arrays::stream).toArray();
    }

    static int[] row(int... numbers) {
        return numbers;
    }
}
