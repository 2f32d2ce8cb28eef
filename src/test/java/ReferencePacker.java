import java.util.ArrayList;
import java.util.List;

/** The face of the document over Reference. */
final class ReferencePacker {
    private Reference.Letters font = new Reference.Letters();
    private List<Integer> buffer = new ArrayList<>();
    private int stage = 0;

    private static void argument(boolean holds) {
        if (!holds) {
            throw new IllegalArgumentException();
        }
    }

    private static void state(boolean holds) {
        if (!holds) {
            throw new IllegalStateException();
        }
    }

    private static void index(boolean holds) {
        if (!holds) {
            throw new IndexOutOfBoundsException();
        }
    }

    private Reference.Outline latest() {
        state(!font.glyphs.isEmpty());
        return font.glyphs.get(font.glyphs.size() - 1);
    }

    private void noEmptyContour() {
        for (Reference.Outline glyph : font.glyphs) {
            for (List<Reference.Point> contour : glyph.contours) {
                state(!contour.isEmpty());
            }
        }
    }

    private static void append(List<Integer> row, long bytes, int n) {
        for (int k = n - 1; k >= 0; k--) {
            row.add((int) (bytes >>> 8 * k) & 255);
        }
    }

    int glyph(int advance) {
        argument(advance >= 0 && advance <= 2000);
        noEmptyContour();
        state(font.glyphs.size() < 6);
        Reference.Outline glyph = new Reference.Outline();
        glyph.advance = advance;
        font.glyphs.add(glyph);
        return font.glyphs.size() - 1;
    }

    int contour() {
        Reference.Outline glyph = latest();
        noEmptyContour();
        state(glyph.contours.size() < 4 && glyph.points().size() < 16);
        glyph.contours.add(new ArrayList<>());
        return glyph.contours.size() - 1;
    }

    int point(int x, int y, boolean on) {
        argument(x >= -4000 && x <= 4000 && y >= -4000 && y <= 4000);
        Reference.Outline glyph = latest();
        state(!glyph.contours.isEmpty() && glyph.points().size() < 16);
        glyph.contours.get(glyph.contours.size() - 1).add(new Reference.Point(x, y, on));
        return glyph.points().size() - 1;
    }

    int table(int table, long bytes, int n) {
        argument(table >= 2 && table <= 6 && n >= 1 && n <= 8);
        state(font.tables.get(table).size() + n <= 20);
        append(font.tables.get(table), bytes, n);
        return font.tables.get(table).size();
    }

    void clear() {
        font = new Reference.Letters();
    }

    int pack() {
        noEmptyContour();
        buffer = Reference.packed(font);
        return buffer.size();
    }

    int plain() {
        noEmptyContour();
        buffer = Reference.plain(font);
        return buffer.size();
    }

    int read() {
        try {
            stage = 0;
            font = Reference.read(buffer);
        } catch (Reference.Failure e) {
            stage = e.stage;
        }
        argument(stage == 0);
        return font.present().size();
    }

    int stage() {
        return stage;
    }

    int put(long bytes, int n) {
        argument(n >= 1 && n <= 8);
        state(buffer.size() + n <= 1500);
        append(buffer, bytes, n);
        return buffer.size();
    }

    void set(int k, int b) {
        index(k >= 0 && k < buffer.size());
        argument(b >= 0 && b <= 255);
        buffer.set(k, b);
    }

    void cut(int n) {
        argument(n >= 0 && n <= buffer.size());
        buffer = new ArrayList<>(buffer.subList(0, n));
    }

    int at(int k) {
        if (k == -1) {
            return buffer.size();
        }
        index(k >= 0 && k < buffer.size());
        return buffer.get(k);
    }

    int count(int g) {
        argument(g >= -1 && g < font.glyphs.size());
        return g == -1 ? font.glyphs.size() : font.glyphs.get(g).points().size();
    }

    int outline(int g, int p, int what) {
        argument(g >= 0 && g < font.glyphs.size() && what >= 0 && what <= 3);
        Reference.Outline glyph = font.glyphs.get(g);
        index(p >= 0 && p < glyph.points().size());
        Reference.Point point = glyph.points().get(p);
        if (what == 3) {
            int c = 0;
            int behind = glyph.contours.get(0).size();
            while (p >= behind) {
                c++;
                behind += glyph.contours.get(c).size();
            }
            return c;
        }
        return what == 0 ? point.x() : what == 1 ? point.y() : point.on() ? 1 : 0;
    }
}
