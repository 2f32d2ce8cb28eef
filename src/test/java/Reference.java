import java.util.ArrayList;
import java.util.List;

/**
 * The document written a second time, with lists and texts of bits instead of rows, slow and without
 * a thought for room: the tests compare the program with it.
 */
final class Reference {
    static final class Failure extends RuntimeException {
        private static final long serialVersionUID = 1;
        final int stage;

        Failure(int stage) {
            this.stage = stage;
        }
    }

    record Point(int x, int y, boolean on) {
    }

    static final class Outline {
        int advance;
        final List<List<Point>> contours = new ArrayList<>();

        List<Point> points() {
            List<Point> all = new ArrayList<>();
            contours.forEach(all::addAll);
            return all;
        }

        /** The steps, each as dx, dy, and 1 for on. */
        List<int[]> steps() {
            List<int[]> steps = new ArrayList<>();
            Point before = new Point(0, 0, true);
            for (Point p : points()) {
                steps.add(new int[] {p.x() - before.x(), p.y() - before.y(), p.on() ? 1 : 0});
                before = p;
            }
            return steps;
        }
    }

    static final class Letters {
        final List<Outline> glyphs = new ArrayList<>();
        final List<List<Integer>> tables = new ArrayList<>();

        Letters() {
            for (int t = 0; t < 7; t++) {
                tables.add(new ArrayList<>());
            }
        }

        List<Integer> present() {
            List<Integer> numbers = new ArrayList<>();
            for (int t = 0; t < 7; t++) {
                if (t < 2 ? !glyphs.isEmpty() : !tables.get(t).isEmpty()) {
                    numbers.add(t);
                }
            }
            return numbers;
        }
    }

    static void two(List<Integer> out, int v) {
        out.add((v & 65535) >> 8);
        out.add(v & 255);
    }

    static List<Integer> plainOutline(Outline glyph) {
        List<Integer> out = new ArrayList<>();
        if (glyph.contours.isEmpty()) {
            return out;
        }
        out.add(glyph.contours.size());
        int points = 0;
        for (List<Point> contour : glyph.contours) {
            points += contour.size();
            out.add(points - 1);
        }
        List<Integer> flags = new ArrayList<>();
        List<Integer> xs = new ArrayList<>();
        List<Integer> ys = new ArrayList<>();
        for (int[] step : glyph.steps()) {
            flags.add(step[2] + axis(step[0], 2, 16, xs) + axis(step[1], 4, 32, ys));
        }
        while (!flags.isEmpty()) {
            int flag = flags.remove(0);
            int same = 0;
            while (same < flags.size() && flags.get(same) == flag) {
                same++;
            }
            if (same < 2) {
                out.add(flag);
            } else {
                out.add(flag + 8);
                out.add(same);
                flags.subList(0, same).clear();
            }
        }
        out.addAll(xs);
        out.addAll(ys);
        if (out.size() % 2 == 1) {
            out.add(0);
        }
        return out;
    }

    private static int axis(int step, int small, int same, List<Integer> out) {
        if (step == 0) {
            return same;
        }
        if (Math.abs(step) < 256) {
            out.add(Math.abs(step));
            return step < 0 ? small : small + same;
        }
        two(out, step);
        return 0;
    }

    static List<List<Integer>> plainTables(Letters font) {
        List<List<Integer>> tables = new ArrayList<>(font.tables);
        List<Integer> outlines = new ArrayList<>();
        List<Integer> advances = new ArrayList<>();
        for (Outline glyph : font.glyphs) {
            two(advances, glyph.advance);
            two(advances, outlines.size());
            outlines.addAll(plainOutline(glyph));
        }
        tables.set(0, outlines);
        tables.set(1, advances);
        return tables;
    }

    static List<Integer> plain(Letters font) {
        List<Integer> head = new ArrayList<>();
        List<Integer> body = new ArrayList<>();
        List<List<Integer>> tables = plainTables(font);
        head.add(font.present().size());
        for (int t : font.present()) {
            List<Integer> table = new ArrayList<>(tables.get(t));
            int length = table.size();
            while (table.size() % 4 != 0) {
                table.add(0);
            }
            long check = 0;
            for (int k = 0; k < table.size(); k += 4) {
                check += table.get(k) * 16777216L + table.get(k + 1) * 65536L
                        + table.get(k + 2) * 256L + table.get(k + 3);
            }
            check %= 4294967296L;
            head.add(t);
            two(head, (int) (check / 65536));
            two(head, (int) (check % 65536));
            two(head, 1 + 9 * font.present().size() + body.size());
            two(head, length);
            body.addAll(table);
        }
        head.addAll(body);
        return head;
    }

    static List<Integer> shortNumber(int v) {
        if (v < 253) {
            return List.of(v);
        }
        if (v <= 505) {
            return List.of(255, v - 253);
        }
        return v <= 761 ? List.of(254, v - 506) : List.of(253, v / 256, v % 256);
    }

    static List<Integer> longNumber(int v) {
        if (v < 128) {
            return List.of(v);
        }
        return v < 16384 ? List.of(128 + v / 128, v % 128)
                : List.of(128 + v / 16384, 128 + v / 128 % 128, v % 128);
    }

    /** Whether a step can be written in a way 1 .. 6. */
    static boolean canBe(int way, int dx, int dy) {
        int a = Math.abs(dx);
        int b = Math.abs(dy);
        switch (way) {
            case 1: return dx == 0 && b < 1280;
            case 2: return dy == 0 && a < 1280;
            case 3: return a > 0 && b > 0 && a < 65 && b < 65;
            case 4: return a > 0 && b > 0 && a < 769 && b < 769;
            case 5: return a < 4096 && b < 4096;
            default: return true;
        }
    }

    /** The sign byte of a step in a way 1 .. 6, and what belongs to it. */
    static List<Integer> stepBytes(int way, int dx, int dy, int s, int t, boolean on) {
        int o = on ? 0 : 128;
        int a = Math.abs(dx);
        int b = Math.abs(dy);
        switch (way) {
            case 1: return List.of(o + b / 256 * 2 + t, b % 256);
            case 2: return List.of(o + 10 + a / 256 * 2 + s, a % 256);
            case 3: return List.of(o + 20 + (a - 1) / 16 * 16 + (b - 1) / 16 * 4 + s + 2 * t,
                    (a - 1) % 16 * 16 + (b - 1) % 16);
            case 4: return List.of(o + 84 + (a - 1) / 256 * 12 + (b - 1) / 256 * 4 + s + 2 * t,
                    (a - 1) % 256, (b - 1) % 256);
            case 5: return List.of(o + 120 + s + 2 * t, a / 16, a % 16 * 16 + b / 256, b % 256);
            default: return List.of(o + 124 + s + 2 * t, a / 256, a % 256, b / 256, b % 256);
        }
    }

    static List<List<Integer>> streamTables(Letters font) {
        List<List<Integer>> tables = new ArrayList<>(font.tables);
        List<Integer> outlines = new ArrayList<>();
        List<Integer> details = new ArrayList<>();
        List<Integer> advances = new ArrayList<>();
        outlines.add(font.glyphs.size());
        for (Outline glyph : font.glyphs) {
            outlines.add(glyph.contours.size());
            advances.addAll(shortNumber(glyph.advance));
        }
        for (Outline glyph : font.glyphs) {
            for (List<Point> contour : glyph.contours) {
                outlines.addAll(shortNumber(contour.size()));
            }
        }
        for (Outline glyph : font.glyphs) {
            for (int[] step : glyph.steps()) {
                int way = 1;
                while (!canBe(way, step[0], step[1])) {
                    way++;
                }
                List<Integer> bytes = stepBytes(way, step[0], step[1], step[0] < 0 ? 0 : 1,
                        step[1] < 0 ? 0 : 1, step[2] == 1);
                outlines.add(bytes.get(0));
                details.addAll(bytes.subList(1, bytes.size()));
            }
        }
        outlines.addAll(details);
        tables.set(0, outlines);
        tables.set(1, advances);
        return tables;
    }

    static String gamma(int v) {
        String bits = Integer.toBinaryString(v);
        return "0".repeat(bits.length() - 1) + bits;
    }

    static String literal(int b) {
        return "0" + Integer.toBinaryString(256 + b).substring(1);
    }

    static int same(List<Integer> stream, int place, int d) {
        int n = 0;
        while (place + n < stream.size() && stream.get(place + n).equals(stream.get(place + n - d))) {
            n++;
        }
        return n;
    }

    static String compressed(List<Integer> stream) {
        StringBuilder bits = new StringBuilder();
        for (int place = 0; place < stream.size();) {
            int n = 0;
            int best = 0;
            for (int d = place; d >= 1; d--) {
                int row = same(stream, place, d);
                if (row >= 3 && row >= n) {
                    n = row;
                    best = d;
                }
            }
            bits.append(n == 0 ? literal(stream.get(place)) : "1" + gamma(n - 2) + gamma(best));
            place += Math.max(n, 1);
        }
        return bits.toString();
    }

    static List<Integer> bytesOf(String bits) {
        String full = bits + "0".repeat((8 - bits.length() % 8) % 8);
        List<Integer> bytes = new ArrayList<>();
        for (int k = 0; k < full.length(); k += 8) {
            bytes.add(Integer.parseInt(full.substring(k, k + 8), 2));
        }
        return bytes;
    }

    static List<Integer> head(List<Integer> present, List<List<Integer>> plainTables,
            List<List<Integer>> streamTables) {
        List<Integer> out = new ArrayList<>(List.of(119, 50, present.size()));
        int together = 0;
        for (int t : present) {
            int length = streamTables.get(t).size();
            out.add(t < 2 ? 64 + t : t);
            out.addAll(longNumber(plainTables.get(t).size()));
            if (t < 2) {
                out.addAll(longNumber(length));
            }
            together += length;
        }
        out.addAll(longNumber(together));
        return out;
    }

    static List<Integer> streamOf(List<Integer> present, List<List<Integer>> streamTables) {
        List<Integer> stream = new ArrayList<>();
        for (int t : present) {
            stream.addAll(streamTables.get(t));
        }
        return stream;
    }

    static List<Integer> packed(Letters font) {
        List<List<Integer>> streamTables = streamTables(font);
        List<Integer> out = head(font.present(), plainTables(font), streamTables);
        out.addAll(bytesOf(compressed(streamOf(font.present(), streamTables))));
        return out;
    }

    /** Numbers taken one by one; when they are out, the stage fails. */
    private static final class Taker {
        final List<Integer> bytes;
        final int stage;
        int place = 0;

        Taker(List<Integer> bytes, int stage) {
            this.bytes = bytes;
            this.stage = stage;
        }

        int take() {
            must(place < bytes.size());
            return bytes.get(place++);
        }

        void must(boolean holds) {
            if (!holds) {
                throw new Failure(stage);
            }
        }

        void mustBeOut() {
            must(place == bytes.size());
        }

        int takeShort() {
            int first = take();
            if (first == 255) {
                return 253 + take();
            }
            if (first == 254) {
                return 506 + take();
            }
            return first == 253 ? take() * 256 + take() : first;
        }

        int takeLong() {
            int first = take();
            must(first != 128);
            if (first < 128) {
                return first;
            }
            int second = take();
            if (second < 128) {
                return (first - 128) * 128 + second;
            }
            int third = take();
            must(third < 128);
            return ((first - 128) * 128 + second - 128) * 128 + third;
        }

        int takeGamma() {
            int zeros = 0;
            while (take() == 0) {
                zeros++;
            }
            long v = 1;
            for (int k = 0; k < zeros; k++) {
                v = Math.min(v * 2 + take(), 1L << 40);
            }
            must(v <= 65535);
            return (int) v;
        }
    }

    static Letters read(List<Integer> bytes) {
        Taker in = new Taker(bytes, 1);
        in.must(in.take() == 119);
        in.must(in.take() == 50);
        int count = in.take();
        List<Integer> present = new ArrayList<>();
        int[] plainLengths = new int[7];
        int[] streamLengths = new int[7];
        int together = 0;
        for (int k = 0; k < count; k++) {
            int mark = in.take();
            int t = mark >= 64 ? mark - 64 : mark;
            in.must(t <= 6 && (mark >= 64) == (t < 2));
            in.must(present.isEmpty() || present.get(k - 1) < t);
            present.add(t);
            plainLengths[t] = in.takeLong();
            streamLengths[t] = t < 2 ? in.takeLong() : plainLengths[t];
            in.must(t < 2 || plainLengths[t] >= 1 && plainLengths[t] <= 20);
            together += streamLengths[t];
        }
        in.must(present.contains(0) == present.contains(1));
        in.must(in.takeLong() == together);
        in.must(together <= 1000);
        List<Integer> stream = expand(bytes.subList(in.place, bytes.size()), together);
        Letters font = new Letters();
        int place = 0;
        for (int t : present) {
            List<Integer> table = stream.subList(place, place + streamLengths[t]);
            if (t == 0) {
                readOutlines(new Taker(table, 3), font);
            } else if (t == 1) {
                readAdvances(new Taker(table, 3), font);
            } else {
                font.tables.get(t).addAll(table);
            }
            place += streamLengths[t];
        }
        for (int t : present) {
            if (plainTables(font).get(t).size() != plainLengths[t]) {
                throw new Failure(4);
            }
        }
        return font;
    }

    static List<Integer> expand(List<Integer> bytes, int length) {
        List<Integer> bits = new ArrayList<>();
        for (int b : bytes) {
            for (char bit : Integer.toBinaryString(256 + b).substring(1).toCharArray()) {
                bits.add(bit - '0');
            }
        }
        Taker in = new Taker(bits, 2);
        List<Integer> stream = new ArrayList<>();
        while (stream.size() < length) {
            if (in.take() == 0) {
                int b = 0;
                for (int k = 0; k < 8; k++) {
                    b = b * 2 + in.take();
                }
                stream.add(b);
            } else {
                int n = in.takeGamma() + 2;
                int d = in.takeGamma();
                in.must(d <= stream.size());
                for (int k = 0; k < n; k++) {
                    stream.add(stream.get(stream.size() - d));
                }
            }
        }
        in.must(stream.size() == length);
        in.must(bits.size() - in.place < 8);
        while (in.place < bits.size()) {
            in.must(in.take() == 0);
        }
        return stream;
    }

    private static void readOutlines(Taker in, Letters font) {
        int glyphs = in.take();
        in.must(glyphs >= 1 && glyphs <= 6);
        int[] contours = new int[glyphs];
        for (int g = 0; g < glyphs; g++) {
            contours[g] = in.take();
            in.must(contours[g] <= 4);
        }
        List<List<Integer>> sizes = new ArrayList<>();
        int points = 0;
        for (int g = 0; g < glyphs; g++) {
            sizes.add(new ArrayList<>());
            int inGlyph = 0;
            for (int c = 0; c < contours[g]; c++) {
                int size = in.takeShort();
                in.must(size >= 1);
                inGlyph += size;
                sizes.get(g).add(size);
            }
            in.must(inGlyph <= 16);
            points += inGlyph;
        }
        int[] signs = new int[points];
        for (int p = 0; p < points; p++) {
            signs[p] = in.take();
        }
        int next = 0;
        for (int g = 0; g < glyphs; g++) {
            Outline glyph = new Outline();
            font.glyphs.add(glyph);
            int x = 0;
            int y = 0;
            for (int size : sizes.get(g)) {
                List<Point> contour = new ArrayList<>();
                glyph.contours.add(contour);
                for (int p = 0; p < size; p++) {
                    int[] step = readStep(signs[next] & 127, in);
                    x += step[0];
                    y += step[1];
                    in.must(Math.abs(x) <= 4000 && Math.abs(y) <= 4000);
                    contour.add(new Point(x, y, signs[next] < 128));
                    next++;
                }
            }
        }
        in.mustBeOut();
    }

    /** Looks for the a, b and signs whose bytes these are, by the rules for writing. */
    private static int[] readStep(int sign, Taker in) {
        int way = sign < 10 ? 1 : sign < 20 ? 2 : sign < 84 ? 3 : sign < 120 ? 4 : sign < 124 ? 5 : 6;
        int[] b = new int[way < 4 ? 1 : way - 2];
        for (int k = 0; k < b.length; k++) {
            b[k] = in.take();
        }
        int s = (sign & 1) == 1 ? 1 : -1;
        int t = (sign & 2) == 2 ? 1 : -1;
        switch (way) {
            case 1: return new int[] {0, s * (b[0] + 256 * (sign >> 1))};
            case 2: return new int[] {s * (b[0] + 256 * (sign - 10 >> 1)), 0};
            case 3: return new int[] {s * (1 + (sign - 20 >> 4) * 16 + (b[0] >> 4)),
                t * (1 + (sign - 20 >> 2 & 3) * 16 + (b[0] & 15))};
            case 4: return new int[] {s * (1 + (sign - 84) / 12 * 256 + b[0]),
                t * (1 + (sign - 84) / 4 % 3 * 256 + b[1])};
            case 5: return new int[] {s * (b[0] << 4 | b[1] >> 4), t * ((b[1] & 15) << 8 | b[2])};
            default: return new int[] {s * (b[0] << 8 | b[1]), t * (b[2] << 8 | b[3])};
        }
    }

    private static void readAdvances(Taker in, Letters font) {
        for (Outline glyph : font.glyphs) {
            glyph.advance = in.takeShort();
            in.must(glyph.advance <= 2000);
        }
        in.mustBeOut();
    }
}
