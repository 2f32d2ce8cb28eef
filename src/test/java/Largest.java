/** A font that has all that it can have, with steps that need all their bytes. */
final class Largest {
    private Largest() {
    }

    static void fill(FontPacker x) {
        for (int g = 0; g < 6; g++) {
            x.glyph(2000 - g);
            for (int p = 0; p < 16; p++) {
                if (p < 4) {
                    x.contour();
                }
                int far = 3000 + g * 100 + p * 7;
                x.point(p % 2 == 0 ? far : -far, p % 2 == 0 ? -far : far, p % 3 == 0);
            }
        }
        for (int t = 2; t <= 6; t++) {
            x.table(t, 0x0102030405060708L * t, 8);
            x.table(t, 0x1112131415161718L ^ t, 8);
            x.table(t, t, 4);
        }
    }
}
