import java.util.function.ToIntFunction;

/** What more than one test builds. */
final class Samples {
    private Samples() {
    }

    /** Steps of 10, 0; 0, 300; -510, 0. */
    static void oneGlyph(FontPacker x) {
        x.glyph(600);
        x.contour();
        x.point(10, 0, true);
        x.point(10, 300, false);
        x.point(-500, 300, true);
    }

    /** A font that has all that it can have, with steps that need all their bytes. */
    static void largest(FontPacker x) {
        for (int g = 0; g < 6; g++) {
            x.glyph(2000 - g);
            for (int p = 0; p < 16; p++) {
                if (p < 4) {
                    x.contour();
                }
                int far = 3000 + g * 100 + p * 7;
                x.point(p % 2 == 0 ? far : -far, p % 2 == 0 ? -far : far, p % 3 == 0);
            }
        }
        for (int t = 2; t <= 6; t++) {
            x.table(t, 0x0102030405060708L * t, 8);
            x.table(t, 0x1112131415161718L ^ t, 8);
            x.table(t, t, 4);
        }
    }

    /** Neither form of a font is written while the latest contour has no points. */
    static void emptyContours(Check check, ToIntFunction<FontPacker> write, int lengthInTheEnd) {
        FontPacker x = new FontPacker();
        x.put(7, 1);
        x.glyph(1);
        x.contour();
        check.badState("an empty contour", () -> write.applyAsInt(x));
        check.buffer("the buffer is left", x, 7);
        x.point(1, 1, true);
        x.contour();
        check.badState("an empty contour behind another", () -> write.applyAsInt(x));
        x.point(1, 1, true);
        x.glyph(2);
        check.answers("a glyph without contours", lengthInTheEnd, () -> write.applyAsInt(x));
    }
}
