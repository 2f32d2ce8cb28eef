/** What more than one test builds. */
final class Samples {
    /** Far from every limit, and such that a limit may be missed when bits are lost. */
    static final int[] FAR_AWAY = {Integer.MIN_VALUE, Integer.MIN_VALUE + 1, -65536, -257, -256, 65536, 65537,
        Integer.MAX_VALUE - 1, Integer.MAX_VALUE};

    private Samples() {
    }

    static void nothing(FontPacker x) {
        // A new object is all that is asked for.
    }

    /** Steps of 10, 0; 0, 300; -510, 0. */
    static void oneGlyph(FontPacker x) {
        x.glyph(600);
        x.contour();
        x.point(10, 0, true);
        x.point(10, 300, false);
        x.point(-500, 300, true);
    }

    /** A glyph with a contour that has no points yet. */
    static void emptyContour(FontPacker x) {
        x.glyph(5);
        x.contour();
    }

    static void emptyContourBehindAnother(FontPacker x) {
        oneGlyph(x);
        x.contour();
    }

    static void emptyContourInTheSixthGlyph(FontPacker x) {
        for (int g = 0; g < 5; g++) {
            x.glyph(g);
        }
        emptyContour(x);
    }

    /** Bytes of one's own in the buffer, a font of one's own, and a reading that failed. */
    static void something(FontPacker x) {
        x.put(0x0102030405L, 5);
        x.glyph(9);
        x.contour();
        x.point(-6, 7, false);
        x.table(4, 0x4D, 1);
        try {
            x.read();
        } catch (IllegalArgumentException e) {
            // The stage is 1 now.
        }
    }

    static void fullBuffer(FontPacker x) {
        almostFullBuffer(x);
        x.put(0xFFFEFDFC, 4);
    }

    /** 1496 bytes. */
    static void almostFullBuffer(FontPacker x) {
        for (int k = 0; k < 187; k++) {
            x.put(k * 0x0101010101L, 8);
        }
    }

    /** A font that has all that it can have, with steps that need all their bytes. */
    static void largest(FontPacker x) {
        for (int g = 0; g < 6; g++) {
            x.glyph(2000 - g);
            for (int p = 0; p < 16; p++) {
                if (p < 4) {
                    x.contour();
                }
                int far = 3000 + g * 100 + p * 7;
                x.point(p % 2 == 0 ? far : -far, p % 2 == 0 ? -far : far, p % 3 == 0);
            }
        }
        for (int t = 2; t <= 6; t++) {
            x.table(t, 0x0102030405060708L * t, 8);
            x.table(t, 0x1112131415161718L ^ t, 8);
            x.table(t, t, 4);
        }
    }
}
