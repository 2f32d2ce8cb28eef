/**
 * A packer of fonts: outlines of glyphs, advances and other tables are put together into a plain
 * font with checks, or transformed, compressed and written as a packed one; a packed one is read
 * strictly.
 */
public final class FontPacker {
    private static final int MOST_GLYPHS = 6;
    private static final int MOST_CONTOURS = 4;
    private static final int MOST_POINTS = 16;
    private static final int MOST_ADVANCE = 2000;
    private static final int FARTHEST = 4000;

    private static final int TABLES = 7;
    private static final int OUTLINES = 0;
    private static final int ADVANCES = 1;
    private static final int FIRST_BARE_TABLE = 2;
    private static final int MOST_TABLE_BYTES = 20;
    private static final int TRANSFORMED_MARK = 64;

    private static final int MOST_BUFFER_BYTES = 1500;
    private static final int MOST_STREAM_BYTES = 1000;
    private static final int MOST_BYTES_AT_ONCE = 8;
    private static final int FIRST_MAGIC = 119;
    private static final int SECOND_MAGIC = 50;

    private final Row buffer = new Row(MOST_BUFFER_BYTES);
    private final PackedWriter writer = new PackedWriter();
    private final PackedReader reader = new PackedReader();
    private Font font = new Font();
    /** What is read goes here first, so that a failed reading leaves the font as it was. */
    private Font spare = new Font();
    private int failedStage = 0;

    public FontPacker() {
    }

    public int glyph(int advance) throws IllegalArgumentException, IllegalStateException {
        if (advance < 0 || advance > MOST_ADVANCE) {
            throw new IllegalArgumentException("the advance is not 0 .. 2000");
        }
        if (font.glyphCount() >= MOST_GLYPHS) {
            throw new IllegalStateException("there are 6 glyphs");
        }
        refuseEmptyContour();
        return font.addGlyph(advance);
    }

    public int contour() throws IllegalStateException {
        if (font.glyphCount() == 0) {
            throw new IllegalStateException("there is no glyph");
        }
        Glyph latest = font.latestGlyph();
        if (latest.contourCount() >= MOST_CONTOURS) {
            throw new IllegalStateException("the glyph has 4 contours");
        }
        if (latest.pointCount() >= MOST_POINTS) {
            throw new IllegalStateException("the glyph has 16 points");
        }
        refuseEmptyContour();
        return latest.addContour();
    }

    public int point(int x, int y, boolean on) throws IllegalArgumentException, IllegalStateException {
        if (isTooFar(x) || isTooFar(y)) {
            throw new IllegalArgumentException("x or y is not -4000 .. 4000");
        }
        if (font.glyphCount() == 0) {
            throw new IllegalStateException("there is no glyph");
        }
        Glyph latest = font.latestGlyph();
        if (latest.contourCount() == 0) {
            throw new IllegalStateException("the glyph has no contour");
        }
        if (latest.pointCount() >= MOST_POINTS) {
            throw new IllegalStateException("the glyph has 16 points");
        }
        latest.growLatestContour();
        return latest.addPoint(x, y, on);
    }

    public int table(int table, long bytes, int n) throws IllegalArgumentException, IllegalStateException {
        if (table < FIRST_BARE_TABLE || table >= TABLES) {
            throw new IllegalArgumentException("the table is not 2 .. 6");
        }
        if (n < 1 || n > MOST_BYTES_AT_ONCE) {
            throw new IllegalArgumentException("n is not 1 .. 8");
        }
        Row row = font.tableRow(table);
        if (row.length() + n > MOST_TABLE_BYTES) {
            throw new IllegalStateException("the table would have more than 20 bytes");
        }
        row.addNumber(bytes, n);
        return row.length();
    }

    public void clear() {
        font.makeEmpty();
    }

    public int pack() throws IllegalStateException {
        refuseEmptyContour();
        writer.writePacked(font, buffer);
        return buffer.length();
    }

    public int plain() throws IllegalStateException {
        refuseEmptyContour();
        PlainForm.writePlain(font, buffer);
        return buffer.length();
    }

    public int read() throws IllegalArgumentException {
        failedStage = reader.readPacked(buffer, spare);
        if (failedStage != 0) {
            throw new IllegalArgumentException("the buffer is not a packed font");
        }
        Font replaced = font;
        font = spare;
        spare = replaced;
        return font.tableCount();
    }

    public int stage() {
        return failedStage;
    }

    public int put(long bytes, int n) throws IllegalArgumentException, IllegalStateException {
        if (n < 1 || n > MOST_BYTES_AT_ONCE) {
            throw new IllegalArgumentException("n is not 1 .. 8");
        }
        if (buffer.length() + n > MOST_BUFFER_BYTES) {
            throw new IllegalStateException("the buffer would have more than 1500 bytes");
        }
        buffer.addNumber(bytes, n);
        return buffer.length();
    }

    public void set(int k, int b) throws IndexOutOfBoundsException, IllegalArgumentException {
        refuseMissingByte(k);
        if (b < 0 || b > 255) {
            throw new IllegalArgumentException("b is not 0 .. 255");
        }
        buffer.change(k, b);
    }

    public void cut(int n) throws IllegalArgumentException {
        if (n < 0 || n > buffer.length()) {
            throw new IllegalArgumentException("there are not n bytes");
        }
        buffer.keepFirst(n);
    }

    public int at(int k) throws IndexOutOfBoundsException {
        if (k == -1) {
            return buffer.length();
        }
        refuseMissingByte(k);
        return buffer.get(k);
    }

    public int count(int g) throws IllegalArgumentException {
        if (g == -1) {
            return font.glyphCount();
        }
        refuseMissingGlyph(g);
        return font.glyphAt(g).pointCount();
    }

    public int outline(int g, int p, int what) throws IllegalArgumentException, IndexOutOfBoundsException {
        refuseMissingGlyph(g);
        if (what < 0 || what > 3) {
            throw new IllegalArgumentException("what is not 0 .. 3");
        }
        Glyph glyph = font.glyphAt(g);
        if (p < 0 || p >= glyph.pointCount()) {
            throw new IndexOutOfBoundsException("there is no such point");
        }
        switch (what) {
            case 0:
                return glyph.x(p);
            case 1:
                return glyph.y(p);
            case 2:
                return glyph.isOn(p) ? 1 : 0;
            default:
                return glyph.contourOf(p);
        }
    }

    private void refuseEmptyContour() {
        if (font.hasEmptyContour()) {
            throw new IllegalStateException("the latest contour has no points");
        }
    }

    private void refuseMissingByte(int k) {
        if (k < 0 || k >= buffer.length()) {
            throw new IndexOutOfBoundsException("there is no such byte");
        }
    }

    private void refuseMissingGlyph(int g) {
        if (g < 0 || g >= font.glyphCount()) {
            throw new IllegalArgumentException("there is no such glyph");
        }
    }

    private static boolean isTooFar(int coordinate) {
        return coordinate < -FARTHEST || coordinate > FARTHEST;
    }

    /**
     * A row of numbers that grows up to a fixed size. All indexes are tested here, so that no user
     * of a row can go beyond it: what is not there is 0, and what has no place is not taken.
     */
    private static final class Row {
        private final int[] cells;
        private int length = 0;

        Row(int most) {
            cells = new int[Math.max(most, 0)];
        }

        int length() {
            return length;
        }

        int get(int k) {
            return k >= 0 && k < length && k < cells.length ? cells[k] : 0;
        }

        int latest() {
            return get(length - 1);
        }

        void change(int k, int number) {
            if (k >= 0 && k < length && k < cells.length) {
                cells[k] = number;
            }
        }

        void add(int number) {
            if (length >= 0 && length < cells.length) {
                cells[length] = number;
                length++;
            }
        }

        void makeEmpty() {
            length = 0;
        }

        void keepFirst(int n) {
            if (n >= 0 && n < length) {
                length = n;
            }
        }

        void addZeros(int n) {
            for (int k = 0; k < n; k++) {
                add(0);
            }
        }

        void addRow(Row other) {
            for (int k = 0; k < other.length; k++) {
                add(other.get(k));
            }
        }

        /** The lowest bytes of a number, the highest of these first. */
        void addNumber(long number, int bytes) {
            for (int behind = bytes - 1; behind >= 0; behind--) {
                add((int) (number >> 8 * behind & 255));
            }
        }

        void addShort(int number) {
            if (number < 253) {
                add(number);
            } else if (number <= 505) {
                add(255);
                add(number - 253);
            } else if (number <= 761) {
                add(254);
                add(number - 506);
            } else {
                add(253);
                addNumber(number, 2);
            }
        }

        /** The lengths that are written are far below 16384: they never need a third byte. */
        void addLong(int number) {
            if (number >= 128) {
                add(128 + number / 128);
            }
            add(number % 128);
        }

        /** How many cells from a place on are the same as those that stand d before them. */
        int sameFrom(int place, int d) {
            if (d < 1 || d > place || length > cells.length) {
                return 0;
            }
            int n = 0;
            while (place + n < length && cells[place + n] == cells[place + n - d]) {
                n++;
            }
            return n;
        }
    }

    /** Takes the bytes of a part of a row one by one; it breaks when there are none left. */
    private static final class Cursor {
        private final Row row;
        private final int end;
        private int place;
        private boolean broken = false;

        Cursor(Row row, int begin, int end) {
            this.row = row;
            this.place = begin;
            this.end = end;
        }

        boolean isBroken() {
            return broken;
        }

        boolean isAtEnd() {
            return !broken && place == end;
        }

        int place() {
            return place;
        }

        int next() {
            if (broken || place >= end) {
                broken = true;
                return 0;
            }
            int taken = row.get(place);
            place++;
            return taken;
        }

        int nextShort() {
            int first = next();
            switch (first) {
                case 255:
                    return 253 + next();
                case 254:
                    return 506 + next();
                case 253:
                    int higher = next();
                    return higher * 256 + next();
                default:
                    return first;
            }
        }

        int nextLong() {
            int number = 0;
            for (int k = 0; k < 3; k++) {
                int taken = next();
                if (k == 0 && taken == 128) {
                    break;
                }
                number = number * 128 + taken % 128;
                if (taken < 128) {
                    return number;
                }
            }
            broken = true;
            return 0;
        }
    }

    /** The points of a glyph, one behind the other, and how many of them each contour has. */
    private static final class Glyph {
        private final Row sizes = new Row(MOST_CONTOURS);
        private final Row xs = new Row(MOST_POINTS);
        private final Row ys = new Row(MOST_POINTS);
        private final Row ons = new Row(MOST_POINTS);
        private int advance = 0;

        void begin(int itsAdvance) {
            advance = itsAdvance;
            sizes.makeEmpty();
            xs.makeEmpty();
            ys.makeEmpty();
            ons.makeEmpty();
        }

        int advance() {
            return advance;
        }

        void changeAdvance(int changed) {
            advance = changed;
        }

        int contourCount() {
            return sizes.length();
        }

        int contourSize(int c) {
            return sizes.get(c);
        }

        int pointCount() {
            return xs.length();
        }

        boolean hasEmptyContour() {
            return sizes.length() > 0 && sizes.latest() == 0;
        }

        int addContour() {
            sizes.add(0);
            return sizes.length() - 1;
        }

        void growLatestContour() {
            sizes.change(sizes.length() - 1, sizes.latest() + 1);
        }

        void changeContourSize(int c, int size) {
            sizes.change(c, size);
        }

        int addPoint(int x, int y, boolean on) {
            xs.add(x);
            ys.add(y);
            ons.add(on ? 1 : 0);
            return xs.length() - 1;
        }

        int x(int p) {
            return xs.get(p);
        }

        int y(int p) {
            return ys.get(p);
        }

        boolean isOn(int p) {
            return ons.get(p) == 1;
        }

        /** A row has 0 where it has no number: the first step goes from 0, as it shall. */
        int dx(int p) {
            return xs.get(p) - xs.get(p - 1);
        }

        int dy(int p) {
            return ys.get(p) - ys.get(p - 1);
        }

        int contourOf(int p) {
            int behind = 0;
            for (int c = 0; c < sizes.length(); c++) {
                behind += sizes.get(c);
                if (p < behind) {
                    return c;
                }
            }
            return 0;
        }

        /** How many points the contours have together, be the points known yet or not. */
        int sizesTogether() {
            int together = 0;
            for (int c = 0; c < sizes.length(); c++) {
                together += sizes.get(c);
            }
            return together;
        }
    }

    /** Glyphs and tables; rows 0 and 1 hold the form in which the glyphs were written last. */
    private static final class Font {
        /** Of a glyph: 1 + 4 for contours, 16 flags, 32 for x and for y, and one for evenness. */
        private static final int MOST_OUTLINE_BYTES = MOST_GLYPHS * 86;
        private static final int MOST_ADVANCE_BYTES = MOST_GLYPHS * 4;

        private final Glyph[] glyphs = new Glyph[MOST_GLYPHS];
        private final Row[] rows = new Row[TABLES];
        private int glyphCount = 0;

        Font() {
            for (int g = 0; g < glyphs.length; g++) {
                glyphs[g] = new Glyph();
            }
            for (int t = 0; t < rows.length; t++) {
                rows[t] = new Row(rowSize(t));
            }
        }

        private static int rowSize(int table) {
            switch (table) {
                case OUTLINES:
                    return MOST_OUTLINE_BYTES;
                case ADVANCES:
                    return MOST_ADVANCE_BYTES;
                default:
                    return MOST_TABLE_BYTES;
            }
        }

        void makeEmpty() {
            glyphCount = 0;
            for (int t = 0; t < rows.length; t++) {
                rows[t].makeEmpty();
            }
        }

        int glyphCount() {
            return glyphCount;
        }

        /** The first glyph stands in where there is none such: nobody asks for one of these. */
        Glyph glyphAt(int g) {
            return glyphs[g >= 0 && g < glyphs.length ? g : 0];
        }

        Glyph latestGlyph() {
            return glyphAt(glyphCount - 1);
        }

        int addGlyph(int advance) {
            if (glyphCount < glyphs.length) {
                glyphCount++;
                latestGlyph().begin(advance);
            }
            return glyphCount - 1;
        }

        boolean hasEmptyContour() {
            return glyphCount > 0 && latestGlyph().hasEmptyContour();
        }

        Row tableRow(int table) {
            return rows[table >= 0 && table < rows.length ? table : 0];
        }

        boolean hasTable(int table) {
            return table < FIRST_BARE_TABLE ? glyphCount > 0 : tableRow(table).length() > 0;
        }

        int tableCount() {
            int tables = 0;
            for (int t = 0; t < TABLES; t++) {
                tables += hasTable(t) ? 1 : 0;
            }
            return tables;
        }
    }

    /** The plain outlines and advances, and the plain font with its checks. */
    private static final class PlainForm {
        private static final int ENTRY_BYTES = 9;
        private static final int REPEATED = 8;

        static void writePlain(Font font, Row out) {
            makeTables(font);
            out.makeEmpty();
            out.add(font.tableCount());
            int begin = 1 + ENTRY_BYTES * font.tableCount();
            for (int t = 0; t < TABLES; t++) {
                if (font.hasTable(t)) {
                    Row row = font.tableRow(t);
                    out.add(t);
                    out.addNumber(checkOf(row), 4);
                    out.addNumber(begin, 2);
                    out.addNumber(row.length(), 2);
                    begin += row.length() + fillOf(row);
                }
            }
            for (int t = 0; t < TABLES; t++) {
                if (font.hasTable(t)) {
                    out.addRow(font.tableRow(t));
                    out.addZeros(fillOf(font.tableRow(t)));
                }
            }
        }

        static void makeTables(Font font) {
            Row outlines = font.tableRow(OUTLINES);
            Row advances = font.tableRow(ADVANCES);
            outlines.makeEmpty();
            advances.makeEmpty();
            for (int g = 0; g < font.glyphCount(); g++) {
                Glyph glyph = font.glyphAt(g);
                int begin = outlines.length();
                advances.addNumber(glyph.advance(), 2);
                advances.addNumber(begin, 2);
                if (glyph.contourCount() > 0) {
                    addContours(glyph, outlines);
                    addFlags(glyph, outlines);
                    addSteps(glyph, outlines);
                    outlines.addZeros((outlines.length() - begin) % 2);
                }
            }
        }

        private static int fillOf(Row row) {
            return Math.floorMod(-row.length(), 4);
        }

        /** The wrap-around of an int is the modulo that the check asks for. */
        private static int checkOf(Row row) {
            int sum = 0;
            for (int k = 0; k < row.length(); k++) {
                sum += row.get(k) << 24 - k % 4 * 8;
            }
            return sum;
        }

        private static void addContours(Glyph glyph, Row out) {
            out.add(glyph.contourCount());
            int last = -1;
            for (int c = 0; c < glyph.contourCount(); c++) {
                last += glyph.contourSize(c);
                out.add(last);
            }
        }

        private static void addFlags(Glyph glyph, Row out) {
            for (int p = 0; p < glyph.pointCount(); p++) {
                int flag = flagOf(glyph, p);
                int repeats = 0;
                while (p + repeats + 1 < glyph.pointCount() && flagOf(glyph, p + repeats + 1) == flag) {
                    repeats++;
                }
                if (repeats >= 2) {
                    out.add(flag + REPEATED);
                    out.add(repeats);
                    p += repeats;
                } else {
                    out.add(flag);
                }
            }
        }

        private static int flagOf(Glyph glyph, int p) {
            return (glyph.isOn(p) ? 1 : 0) + stepFlag(glyph.dx(p), 2, 16) + stepFlag(glyph.dy(p), 4, 32);
        }

        private static int stepFlag(int step, int small, int same) {
            if (step == 0) {
                return same;
            }
            if (!isSmall(step)) {
                return 0;
            }
            return step > 0 ? small + same : small;
        }

        private static void addSteps(Glyph glyph, Row out) {
            for (int p = 0; p < glyph.pointCount(); p++) {
                addStep(glyph.dx(p), out);
            }
            for (int p = 0; p < glyph.pointCount(); p++) {
                addStep(glyph.dy(p), out);
            }
        }

        private static void addStep(int step, Row out) {
            if (step == 0) {
                return;
            }
            if (isSmall(step)) {
                out.add(Math.abs(step));
            } else {
                out.addNumber(step, 2);
            }
        }

        private static boolean isSmall(int step) {
            return step >= -255 && step <= 255;
        }
    }

    /** The tables as the stream has them. */
    private static final class StreamForm {
        private static final int MOST_DETAILS = 4;

        /** What belongs to the sign bytes: it is known with them, but stands behind all of them. */
        private final Row details = new Row(MOST_GLYPHS * MOST_POINTS * MOST_DETAILS);

        void makeTables(Font font) {
            Row outlines = font.tableRow(OUTLINES);
            Row advances = font.tableRow(ADVANCES);
            outlines.makeEmpty();
            advances.makeEmpty();
            details.makeEmpty();
            addCounts(font, outlines);
            for (int g = 0; g < font.glyphCount(); g++) {
                Glyph glyph = font.glyphAt(g);
                for (int p = 0; p < glyph.pointCount(); p++) {
                    addStep(glyph.dx(p), glyph.dy(p), glyph.isOn(p) ? 0 : 128, outlines);
                }
                advances.addShort(glyph.advance());
            }
            outlines.addRow(details);
        }

        private static void addCounts(Font font, Row out) {
            out.add(font.glyphCount());
            for (int g = 0; g < font.glyphCount(); g++) {
                out.add(font.glyphAt(g).contourCount());
            }
            for (int g = 0; g < font.glyphCount(); g++) {
                Glyph glyph = font.glyphAt(g);
                for (int c = 0; c < glyph.contourCount(); c++) {
                    out.addShort(glyph.contourSize(c));
                }
            }
        }

        private void addStep(int dx, int dy, int off, Row signs) {
            int a = Math.abs(dx);
            int b = Math.abs(dy);
            int s = dx < 0 ? 0 : 1;
            int t = dy < 0 ? 0 : 1;
            if (a == 0 && b < 1280) {
                signs.add(off + b / 256 * 2 + t);
                details.add(b % 256);
            } else if (b == 0 && a < 1280) {
                signs.add(off + 10 + a / 256 * 2 + s);
                details.add(a % 256);
            } else if (a > 0 && b > 0 && a < 65 && b < 65) {
                signs.add(off + 20 + (a - 1) / 16 * 16 + (b - 1) / 16 * 4 + s + 2 * t);
                details.add((a - 1) % 16 * 16 + (b - 1) % 16);
            } else if (a > 0 && b > 0 && a < 769 && b < 769) {
                signs.add(off + 84 + (a - 1) / 256 * 12 + (b - 1) / 256 * 4 + s + 2 * t);
                details.add((a - 1) % 256);
                details.add((b - 1) % 256);
            } else if (a < 4096 && b < 4096) {
                signs.add(off + 120 + s + 2 * t);
                details.add(a / 16);
                details.add(a % 16 * 16 + b / 256);
                details.add(b % 256);
            } else {
                signs.add(off + 124 + s + 2 * t);
                details.addNumber(a, 2);
                details.addNumber(b, 2);
            }
        }
    }

    /** Writes bits into a row, the highest of each byte first. */
    private static final class BitWriter {
        private final Row out;
        private int begun = 0;
        private int bitsBegun = 0;

        BitWriter(Row out) {
            this.out = out;
        }

        void addBits(int number, int bits) {
            for (int behind = bits - 1; behind >= 0; behind--) {
                begun = begun * 2 + (number >> behind & 1);
                bitsBegun++;
                if (bitsBegun == 8) {
                    out.add(begun);
                    begun = 0;
                    bitsBegun = 0;
                }
            }
        }

        void addGamma(int number) {
            int behind = 0;
            for (int rest = number / 2; rest > 0; rest /= 2) {
                behind++;
            }
            addBits(0, behind);
            addBits(number, behind + 1);
        }

        void fillByte() {
            if (bitsBegun > 0) {
                addBits(0, 8 - bitsBegun);
            }
        }
    }

    /** Takes bits from a row, the highest of each byte first; it breaks when there are none left. */
    private static final class BitReader {
        private static final int MOST_GAMMA_ZEROS = 15;

        private final Row row;
        private final int bitsTogether;
        private int bitsTaken;
        private boolean broken = false;

        BitReader(Row row, int begin) {
            this.row = row;
            this.bitsTogether = row.length() * 8;
            this.bitsTaken = begin * 8;
        }

        boolean isBroken() {
            return broken;
        }

        int nextBits(int bits) {
            int number = 0;
            for (int k = 0; k < bits; k++) {
                if (bitsTaken >= bitsTogether) {
                    broken = true;
                    return 0;
                }
                number = number * 2 + (row.get(bitsTaken / 8) >> 7 - bitsTaken % 8 & 1);
                bitsTaken++;
            }
            return number;
        }

        /** With more zeros than 15 a number is above 65535. */
        int nextGamma() {
            for (int zeros = 0; zeros <= MOST_GAMMA_ZEROS; zeros++) {
                if (nextBits(1) == 1) {
                    return (1 << zeros) + nextBits(zeros);
                }
            }
            broken = true;
            return 0;
        }

        boolean hasOnlyFillLeft() {
            int left = bitsTogether - bitsTaken;
            return left < 8 && nextBits(left) == 0;
        }
    }

    /** Writes the packed font. */
    private static final class PackedWriter {
        private static final int LEAST_ROW = 3;

        private final StreamForm form = new StreamForm();
        private final Row stream = new Row(MOST_STREAM_BYTES);

        void writePacked(Font font, Row out) {
            PlainForm.makeTables(font);
            int plainOutlines = font.tableRow(OUTLINES).length();
            int plainAdvances = font.tableRow(ADVANCES).length();
            form.makeTables(font);
            stream.makeEmpty();
            out.makeEmpty();
            out.add(FIRST_MAGIC);
            out.add(SECOND_MAGIC);
            out.add(font.tableCount());
            for (int t = 0; t < TABLES; t++) {
                if (font.hasTable(t)) {
                    Row row = font.tableRow(t);
                    if (t < FIRST_BARE_TABLE) {
                        out.add(t + TRANSFORMED_MARK);
                        out.addLong(t == OUTLINES ? plainOutlines : plainAdvances);
                    } else {
                        out.add(t);
                    }
                    out.addLong(row.length());
                    stream.addRow(row);
                }
            }
            out.addLong(stream.length());
            compressStream(new BitWriter(out));
        }

        private void compressStream(BitWriter bits) {
            int place = 0;
            while (place < stream.length()) {
                int d = bestDistance(place);
                int n = stream.sameFrom(place, d);
                if (n >= LEAST_ROW) {
                    bits.addBits(1, 1);
                    bits.addGamma(n - 2);
                    bits.addGamma(d);
                    place += n;
                } else {
                    bits.addBits(0, 1);
                    bits.addBits(stream.get(place), 8);
                    place++;
                }
            }
            bits.fillByte();
        }

        /** The least d with the longest row of the same bytes, 0 when there is no such row. */
        private int bestDistance(int place) {
            int longest = 0;
            int best = 0;
            for (int d = 1; d <= place && longest < stream.length() - place; d++) {
                int n = stream.sameFrom(place, d);
                if (n > longest) {
                    longest = n;
                    best = d;
                }
            }
            return best;
        }
    }

    /** Reads a packed font, stage by stage. */
    private static final class PackedReader {
        private final Row stream = new Row(MOST_STREAM_BYTES);
        /** By table: its length in the plain font and in the stream, as said before the stream. */
        private final Row plainLengths = new Row(TABLES);
        private final Row streamLengths = new Row(TABLES);
        private boolean saysGlyphs = false;
        private int streamLength = 0;
        private int dx = 0;
        private int dy = 0;

        /** The stage in which reading fails, 0 when it does not and the font is whole. */
        int readPacked(Row in, Font font) {
            font.makeEmpty();
            Cursor head = new Cursor(in, 0, in.length());
            if (!readHead(head)) {
                return 1;
            }
            if (!expandStream(new BitReader(in, head.place()))) {
                return 2;
            }
            if (saysGlyphs && !(readOutlines(font) && readAdvances(font))) {
                return 3;
            }
            readBareTables(font);
            PlainForm.makeTables(font);
            boolean asSaid = font.tableRow(OUTLINES).length() == plainLengths.get(OUTLINES)
                    && font.tableRow(ADVANCES).length() == plainLengths.get(ADVANCES);
            return asSaid ? 0 : 4;
        }

        private boolean readHead(Cursor in) {
            if (in.next() != FIRST_MAGIC || in.next() != SECOND_MAGIC) {
                return false;
            }
            plainLengths.makeEmpty();
            plainLengths.addZeros(TABLES);
            streamLengths.makeEmpty();
            streamLengths.addZeros(TABLES);
            int tables = in.next();
            int together = 0;
            int latest = -1;
            boolean withOutlines = false;
            boolean withAdvances = false;
            for (int k = 0; k < tables; k++) {
                int table = tableOfMark(in.next());
                if (in.isBroken() || table <= latest || !readLengths(table, in)) {
                    return false;
                }
                together += streamLengths.get(table);
                withOutlines = withOutlines || table == OUTLINES;
                withAdvances = withAdvances || table == ADVANCES;
                latest = table;
            }
            saysGlyphs = withOutlines;
            streamLength = in.nextLong();
            return !in.isBroken() && withOutlines == withAdvances
                    && streamLength == together && streamLength <= MOST_STREAM_BYTES;
        }

        /** The table with such a byte in the packed font, -1 when there is none. */
        private static int tableOfMark(int mark) {
            if (mark == TRANSFORMED_MARK + OUTLINES || mark == TRANSFORMED_MARK + ADVANCES) {
                return mark - TRANSFORMED_MARK;
            }
            return mark >= FIRST_BARE_TABLE && mark < TABLES ? mark : -1;
        }

        private boolean readLengths(int table, Cursor in) {
            int plainLength = in.nextLong();
            plainLengths.change(table, plainLength);
            if (table < FIRST_BARE_TABLE) {
                streamLengths.change(table, in.nextLong());
                return !in.isBroken();
            }
            streamLengths.change(table, plainLength);
            return !in.isBroken() && plainLength >= 1 && plainLength <= MOST_TABLE_BYTES;
        }

        private boolean expandStream(BitReader bits) {
            stream.makeEmpty();
            for (int turn = 0; turn < streamLength && stream.length() < streamLength; turn++) {
                if (bits.nextBits(1) == 0) {
                    stream.add(bits.nextBits(8));
                } else if (!repeatBytes(bits.nextGamma(), bits.nextGamma())) {
                    return false;
                }
                if (bits.isBroken()) {
                    return false;
                }
            }
            return bits.hasOnlyFillLeft();
        }

        private boolean repeatBytes(int rowGamma, int d) {
            int n = rowGamma + 2;
            if (d < 1 || d > stream.length() || n > streamLength - stream.length()) {
                return false;
            }
            for (int k = 0; k < n; k++) {
                stream.add(stream.get(stream.length() - d));
            }
            return true;
        }

        private boolean readOutlines(Font font) {
            int end = streamLengths.get(OUTLINES);
            Cursor counts = new Cursor(stream, 0, end);
            if (!readContours(counts, font)) {
                return false;
            }
            int points = 0;
            for (int g = 0; g < font.glyphCount(); g++) {
                if (!readSizes(counts, font.glyphAt(g))) {
                    return false;
                }
                points += font.glyphAt(g).sizesTogether();
            }
            int signsEnd = counts.place() + points;
            if (signsEnd > end) {
                return false;
            }
            Cursor signs = new Cursor(stream, counts.place(), signsEnd);
            Cursor details = new Cursor(stream, signsEnd, end);
            for (int g = 0; g < font.glyphCount(); g++) {
                if (!readPoints(font.glyphAt(g), signs, details)) {
                    return false;
                }
            }
            return details.isAtEnd();
        }

        /** How many glyphs there are, and how many contours each has; their points come later. */
        private static boolean readContours(Cursor in, Font font) {
            int glyphs = in.next();
            if (glyphs < 1 || glyphs > MOST_GLYPHS) {
                return false;
            }
            for (int g = 0; g < glyphs; g++) {
                int contours = in.next();
                if (in.isBroken() || contours > MOST_CONTOURS) {
                    return false;
                }
                Glyph glyph = font.glyphAt(font.addGlyph(0));
                for (int c = 0; c < contours; c++) {
                    glyph.addContour();
                }
            }
            return true;
        }

        private static boolean readSizes(Cursor in, Glyph glyph) {
            for (int c = 0; c < glyph.contourCount(); c++) {
                int size = in.nextShort();
                if (in.isBroken() || size < 1 || size > MOST_POINTS - glyph.sizesTogether()) {
                    return false;
                }
                glyph.changeContourSize(c, size);
            }
            return true;
        }

        private boolean readPoints(Glyph glyph, Cursor signs, Cursor details) {
            int x = 0;
            int y = 0;
            int points = glyph.sizesTogether();
            for (int p = 0; p < points; p++) {
                int sign = signs.next();
                readStep(sign % 128, details);
                x += dx;
                y += dy;
                if (details.isBroken() || isTooFar(x) || isTooFar(y)) {
                    return false;
                }
                glyph.addPoint(x, y, sign < 128);
            }
            return true;
        }

        /** Leaves the step in dx and dy. */
        private void readStep(int way, Cursor in) {
            if (way < 10) {
                dx = 0;
                dy = signed(way / 2 * 256 + in.next(), way % 2);
            } else if (way < 20) {
                dx = signed((way - 10) / 2 * 256 + in.next(), way % 2);
                dy = 0;
            } else if (way < 84) {
                int both = in.next();
                takeStep(1 + (way - 20) / 16 * 16 + both / 16, 1 + (way - 20) / 4 % 4 * 16 + both % 16, way);
            } else if (way < 120) {
                int a = 1 + (way - 84) / 12 * 256 + in.next();
                takeStep(a, 1 + (way - 84) % 12 / 4 * 256 + in.next(), way);
            } else if (way < 124) {
                int first = in.next();
                int second = in.next();
                takeStep(first * 16 + second / 16, second % 16 * 256 + in.next(), way);
            } else {
                int a = in.next() * 256;
                a += in.next();
                int b = in.next() * 256;
                takeStep(a, b + in.next(), way);
            }
        }

        /** From the third way on each begins at a multiple of 4, so the lowest bits are the signs. */
        private void takeStep(int a, int b, int way) {
            dx = signed(a, way % 2);
            dy = signed(b, way / 2 % 2);
        }

        private static int signed(int size, int notBelow) {
            return notBelow == 1 ? size : -size;
        }

        private boolean readAdvances(Font font) {
            int begin = streamLengths.get(OUTLINES);
            Cursor in = new Cursor(stream, begin, begin + streamLengths.get(ADVANCES));
            for (int g = 0; g < font.glyphCount(); g++) {
                int advance = in.nextShort();
                if (advance > MOST_ADVANCE) {
                    return false;
                }
                font.glyphAt(g).changeAdvance(advance);
            }
            return in.isAtEnd();
        }

        private void readBareTables(Font font) {
            int place = streamLengths.get(OUTLINES) + streamLengths.get(ADVANCES);
            for (int t = FIRST_BARE_TABLE; t < TABLES; t++) {
                for (int k = 0; k < streamLengths.get(t); k++) {
                    font.tableRow(t).add(stream.get(place));
                    place++;
                }
            }
        }
    }
}
