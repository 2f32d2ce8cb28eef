/** Packed fonts that are put together by hand, for reading. */
final class PackedBytes {
    /** One glyph, one contour, one point at 3, 4 that is on: plain it has 6 bytes. */
    static final int[] STREAM = {1, 1, 1, 23, 0x23, 7};
    static final int[] HEAD = {119, 50, 2, 64, 6, 5, 65, 4, 1, 6};

    private PackedBytes() {
    }

    static int[] packed(int[] head, int... stream) {
        return Check.join(head, Check.bits(Check.literal(stream)));
    }

    /** A packed font of tables 0 and 1, with their lengths as the stream has them. */
    static int[] glyphs(int plainLength, int plainAdvances, int[] outlines, int... advances) {
        int together = outlines.length + advances.length;
        return packed(Check.row(119, 50, 2, 64, plainLength, outlines.length, 65, plainAdvances,
                advances.length, together), Check.join(outlines, advances));
    }

    /** Glyphs without contours, with these advances as the stream has them. */
    static int[] advances(int glyphs, int... advances) {
        int[] outlines = new int[1 + glyphs];
        outlines[0] = glyphs;
        return glyphs(0, 4 * glyphs, outlines, advances);
    }

    /** Table 2 of this length, with these bits behind the head. */
    static int[] table(int length, String bits) {
        return Check.join(Check.row(119, 50, 1, 2, length, length), Check.bits(bits));
    }

    /** Tables 0 and 1 of zeros alone, with so many bytes together. */
    static int[] zeros(int together) {
        int outlines = together - 2;
        return Check.join(Check.row(119, 50, 2, 64, 6, 128 + outlines / 128, outlines % 128, 65, 4, 2,
                128 + together / 128, together % 128),
                Check.bits(Check.literal(0) + "1" + Reference.gamma(together - 3) + "1"));
    }
}
