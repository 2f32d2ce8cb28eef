import java.util.Arrays;

/** Counts the answers of a test that are not the ones that are due, and tells them. */
final class Check {
    interface Call {
        long run();
    }

    private int wrong = 0;
    private int asked = 0;

    void due(String what, long got, long want) {
        asked++;
        if (got != want) {
            tell(what + " answered " + got + ", due is " + want);
        }
    }

    void answers(String what, long want, Call call) {
        try {
            due(what, call.run(), want);
        } catch (RuntimeException e) {
            tell(what + " threw " + e + ", due is " + want);
        }
    }

    /** The class has to be the very one: what the machine throws by itself is often a class below. */
    void fails(String what, Class<? extends RuntimeException> kind, Call call) {
        asked++;
        try {
            tell(what + " answered " + call.run() + ", due is " + kind.getSimpleName());
        } catch (RuntimeException e) {
            if (e.getClass() != kind) {
                tell(what + " threw " + e + ", due is " + kind.getSimpleName());
            }
        }
    }

    void badArgument(String what, Call call) {
        fails(what, IllegalArgumentException.class, call);
    }

    void badState(String what, Call call) {
        fails(what, IllegalStateException.class, call);
    }

    void badIndex(String what, Call call) {
        fails(what, IndexOutOfBoundsException.class, call);
    }

    void buffer(String what, FontPacker packer, int... want) {
        asked++;
        int[] got = bytesOf(packer);
        if (!Arrays.equals(got, want)) {
            tell(what + ": the buffer is " + Arrays.toString(got) + ", due is " + Arrays.toString(want));
        }
    }

    /** The reading of these bytes fails in this stage. */
    void failsInStage(String what, int stage, int... bytes) {
        FontPacker packer = new FontPacker();
        packer.table(4, 77, 1);
        packer.glyph(9);
        load(packer, bytes);
        badArgument(what, packer::read);
        due(what + ": stage", packer.stage(), stage);
        buffer(what, packer, bytes);
        answers(what + ": glyphs are left", 1, () -> packer.count(-1));
        answers(what + ": tables are left", 2, () -> packer.table(4, 78, 1));
    }

    void tell(String text) {
        wrong++;
        System.out.println(text);
    }

    void finish() {
        System.out.println(asked + " answers, " + wrong + " wrong");
        if (wrong > 0 || asked == 0) {
            System.exit(1);
        }
    }

    static int[] bytesOf(FontPacker packer) {
        int[] bytes = new int[packer.at(-1)];
        for (int k = 0; k < bytes.length; k++) {
            bytes[k] = packer.at(k);
        }
        return bytes;
    }

    /** Puts eight bytes with each call, as an object is good for 512 calls alone. */
    static void load(FontPacker packer, int... bytes) {
        packer.cut(0);
        for (int k = 0; k < bytes.length; k += 8) {
            int n = Math.min(8, bytes.length - k);
            long together = 0;
            for (int j = 0; j < n; j++) {
                together = together << 8 | bytes[k + j];
            }
            packer.put(together, n);
        }
    }

    /** Bytes of texts of bits (blanks between them are free), filled with zeros. */
    static int[] bits(String text) {
        String bare = text.replace(" ", "");
        int[] bytes = new int[(bare.length() + 7) / 8];
        for (int k = 0; k < bare.length(); k++) {
            if (bare.charAt(k) == '1') {
                bytes[k / 8] |= 128 >> k % 8;
            }
        }
        return bytes;
    }

    /** The bits of bytes that are written one by one, without a row that repeats. */
    static String literal(int... bytes) {
        StringBuilder text = new StringBuilder();
        for (int b : bytes) {
            text.append('0');
            for (int k = 7; k >= 0; k--) {
                text.append(b >> k & 1);
            }
        }
        return text.toString();
    }

    static int[] join(int[]... rows) {
        return Arrays.stream(rows).flatMapToInt(Arrays::stream).toArray();
    }

    static int[] row(int... numbers) {
        return numbers;
    }
}
