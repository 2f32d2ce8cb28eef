import java.util.ArrayList;
import java.util.List;
import java.util.Random;

/** All promises: runs of calls, with seeds that are always the same, compared with Reference. */
public final class RandomRunsTest {
    private static final Check CHECK = new Check();
    private static final int CALL_RUNS = 1500;
    private static final int READ_RUNS = 20000;
    /** Beside these the buffers are looked at: objects go beyond the 512 calls that they are good for. */
    private static final int CALLS = 512;
    private static final int[] EDGES = {0, 1, 15, 16, 17, 63, 64, 65, 66, 255, 256, 257, 512, 513, 767, 768,
        769, 1023, 1024, 1279, 1280, 1281, 2000, 3999, 4000};
    private static final int[] ADVANCES = {0, 1, 252, 253, 254, 255, 505, 506, 508, 509, 761, 762, 1999, 2000};

    private final Random random;
    private final int[] reached = new int[5];

    private RandomRunsTest(long seed) {
        random = new Random(seed);
    }

    public static void main(String[] args) {
        for (int run = 0; run < CALL_RUNS; run++) {
            new RandomRunsTest(run).compareCalls();
        }
        RandomRunsTest readings = new RandomRunsTest(-1);
        for (int run = 0; run < READ_RUNS; run++) {
            readings.compareReading();
        }
        for (int stage = 0; stage < 5; stage++) {
            CHECK.due("readings enough that end in stage " + stage,
                    readings.reached[stage] > READ_RUNS / 50 ? 1 : 0, 1);
        }
        CHECK.finish();
    }

    private static String outcome(Check.Call call) {
        try {
            return String.valueOf(call.run());
        } catch (RuntimeException e) {
            return e.getClass().getSimpleName();
        }
    }

    private void same(String what, Check.Call got, Check.Call want) {
        String wanted = outcome(want);
        String answered = outcome(got);
        if (answered.equals(wanted)) {
            CHECK.due("", 1, 1);
        } else {
            CHECK.tell(what + " answered " + answered + ", by the reference " + wanted);
        }
    }

    private static Check.Call quiet(Runnable call) {
        return () -> {
            call.run();
            return 0;
        };
    }

    private boolean oneOf(int n) {
        return random.nextInt(n) == 0;
    }

    private int coordinate() {
        if (oneOf(60)) {
            return oneOf(2) ? 4001 : -4001;
        }
        int size = oneOf(2) ? EDGES[random.nextInt(EDGES.length)] : random.nextInt(4001);
        return oneOf(2) ? size : -size;
    }

    private int advance() {
        return oneOf(30) ? (oneOf(2) ? -1 : 2001)
                : oneOf(2) ? ADVANCES[random.nextInt(ADVANCES.length)] : random.nextInt(2001);
    }

    private long bytes() {
        long few = random.nextInt(3) * 0x0101010101010101L;
        return oneOf(2) ? random.nextLong() : oneOf(2) ? few : few ^ random.nextInt(256);
    }

    private int someLength() {
        return oneOf(20) ? random.nextInt(12) - 1 : 1 + random.nextInt(8);
    }

    private void compareCalls() {
        FontPacker x = new FontPacker();
        ReferencePacker y = new ReferencePacker();
        int lastX = 0;
        int lastY = 0;
        for (int call = 0; call < CALLS; call++) {
            int k = random.nextInt(100);
            if (k < 8) {
                int a = advance();
                same("glyph " + a, () -> x.glyph(a), () -> y.glyph(a));
            } else if (k < 18) {
                same("contour", x::contour, y::contour);
            } else if (k < 52) {
                lastX = oneOf(3) ? lastX : oneOf(2) ? lastX + random.nextInt(140) - 70 : coordinate();
                lastY = oneOf(3) ? lastY : oneOf(2) ? lastY + random.nextInt(140) - 70 : coordinate();
                int px = lastX;
                int py = lastY;
                boolean on = !oneOf(4);
                same("point " + px + " " + py, () -> x.point(px, py, on), () -> y.point(px, py, on));
                lastX = Math.max(-4000, Math.min(4000, lastX));
                lastY = Math.max(-4000, Math.min(4000, lastY));
            } else if (k < 60) {
                int t = oneOf(20) ? random.nextInt(12) - 2 : 2 + random.nextInt(5);
                long b = bytes();
                int n = someLength();
                same("table " + t, () -> x.table(t, b, n), () -> y.table(t, b, n));
            } else if (k < 61) {
                x.clear();
                y.clear();
            } else {
                compareBufferCall(k, x, y);
            }
        }
    }

    private void compareBufferCall(int k, FontPacker x, ReferencePacker y) {
        int length = x.at(-1);
        int place = random.nextInt(length + 4) - 2;
        if (k < 67) {
            same("pack", x::pack, y::pack);
            compareBuffers(x, y);
        } else if (k < 72) {
            same("plain", x::plain, y::plain);
            compareBuffers(x, y);
        } else if (k < 82) {
            same("read", x::read, y::read);
            same("stage", x::stage, y::stage);
        } else if (k < 85) {
            long b = bytes();
            int n = someLength();
            same("put", () -> x.put(b, n), () -> y.put(b, n));
        } else if (k < 88) {
            int b = oneOf(10) ? random.nextInt(600) - 200 : random.nextInt(256);
            same("set", quiet(() -> x.set(place, b)), quiet(() -> y.set(place, b)));
        } else if (k < 90) {
            same("cut " + place, quiet(() -> x.cut(place)), quiet(() -> y.cut(place)));
        } else if (k < 94) {
            same("at " + place, () -> x.at(place), () -> y.at(place));
        } else {
            int g = random.nextInt(9) - 2;
            int p = random.nextInt(19) - 1;
            int what = random.nextInt(6) - 1;
            same("count " + g, () -> x.count(g), () -> y.count(g));
            same("outline " + g + " " + p + " " + what, () -> x.outline(g, p, what), () -> y.outline(g, p, what));
        }
    }

    private void compareBuffers(FontPacker x, ReferencePacker y) {
        same("length", () -> x.at(-1), () -> y.at(-1));
        for (int k = 0; k < x.at(-1); k++) {
            int place = k;
            same("byte " + k, () -> x.at(place), () -> y.at(place));
        }
    }

    private Reference.Letters someFont() {
        Reference.Letters font = new Reference.Letters();
        int glyphs = random.nextInt(4);
        for (int g = 0; g < glyphs; g++) {
            Reference.Outline glyph = new Reference.Outline();
            glyph.advance = Math.max(0, Math.min(2000, advance()));
            int contours = random.nextInt(4);
            for (int c = 0; c < contours; c++) {
                List<Reference.Point> contour = new ArrayList<>();
                int points = 1 + random.nextInt(4);
                for (int p = 0; p < points; p++) {
                    contour.add(new Reference.Point(Math.max(-4000, Math.min(4000, coordinate())),
                            oneOf(3) ? 0 : Math.max(-4000, Math.min(4000, coordinate())), !oneOf(3)));
                }
                glyph.contours.add(contour);
            }
            font.glyphs.add(glyph);
        }
        for (int t = 2; t <= 6; t++) {
            int length = oneOf(3) ? 1 + random.nextInt(20) : 0;
            for (int k = 0; k < length; k++) {
                font.tables.get(t).add(random.nextInt(3));
            }
        }
        return font;
    }

    private List<Integer> someShort(int v) {
        List<List<Integer>> ways = new ArrayList<>();
        ways.add(List.of(253, v / 256, v % 256));
        if (v < 253) {
            ways.add(List.of(v));
        }
        if (v >= 253 && v <= 508) {
            ways.add(List.of(255, v - 253));
        }
        if (v >= 506 && v <= 761) {
            ways.add(List.of(254, v - 506));
        }
        return ways.get(random.nextInt(ways.size()));
    }

    /** The stream's tables in any of the ways that reading takes. */
    private List<List<Integer>> someStreamTables(Reference.Letters font) {
        List<List<Integer>> tables = new ArrayList<>();
        font.tables.forEach(t -> tables.add(new ArrayList<>(t)));
        List<Integer> outlines = tables.get(0);
        List<Integer> details = new ArrayList<>();
        outlines.add(font.glyphs.size());
        font.glyphs.forEach(g -> outlines.add(g.contours.size()));
        font.glyphs.forEach(g -> g.contours.forEach(c -> outlines.addAll(someShort(c.size()))));
        for (Reference.Outline glyph : font.glyphs) {
            tables.get(1).addAll(someShort(glyph.advance));
            for (int[] step : glyph.steps()) {
                int way = 1 + random.nextInt(6);
                while (!Reference.canBe(way, step[0], step[1])) {
                    way = 1 + random.nextInt(6);
                }
                int s = step[0] == 0 ? random.nextInt(2) : step[0] < 0 ? 0 : 1;
                int t = step[1] == 0 ? random.nextInt(2) : step[1] < 0 ? 0 : 1;
                List<Integer> bytes = Reference.stepBytes(way, step[0], step[1], s, t, step[2] == 1);
                outlines.add(bytes.get(0));
                details.addAll(bytes.subList(1, bytes.size()));
            }
        }
        outlines.addAll(details);
        return tables;
    }

    /** Bits that lead to the stream, with rows that are not the longest. */
    private String someBits(List<Integer> stream) {
        StringBuilder bits = new StringBuilder();
        for (int place = 0; place < stream.size();) {
            int d = place == 0 ? 0 : 1 + random.nextInt(place);
            int n = d == 0 ? 0 : Reference.same(stream, place, d);
            if (n >= 3 && !oneOf(4)) {
                n = 3 + random.nextInt(n - 2);
                bits.append('1').append(Reference.gamma(n - 2)).append(Reference.gamma(d));
                place += n;
            } else {
                bits.append(Reference.literal(stream.get(place)));
                place++;
            }
        }
        return bits.toString();
    }

    /** A byte changed, left out or put in, so that reading may fail. */
    private void spoil(List<Integer> bytes) {
        int place = random.nextInt(bytes.size() + 1);
        int kind = random.nextInt(4);
        int b = oneOf(2) ? random.nextInt(256) : random.nextInt(20);
        if (kind == 0 || place == bytes.size()) {
            bytes.add(place, b);
        } else if (kind == 1) {
            bytes.remove(place);
        } else {
            bytes.set(place, oneOf(2) ? b : bytes.get(place) ^ 1 << random.nextInt(8));
        }
    }

    private void compareReading() {
        Reference.Letters font = someFont();
        List<Integer> present = font.present();
        List<List<Integer>> plainTables = Reference.plainTables(font);
        List<List<Integer>> streamTables = someStreamTables(font);
        int fault = random.nextInt(6);
        if (fault == 1 && !present.isEmpty()) {
            spoil(streamTables.get(present.get(random.nextInt(Math.min(2, present.size())))));
        }
        if (fault == 2) {
            spoil(plainTables.get(random.nextInt(2)));
        }
        List<Integer> bytes = Reference.head(present, plainTables, streamTables);
        if (fault == 3) {
            spoil(bytes);
        }
        List<Integer> packed = Reference.bytesOf(someBits(Reference.streamOf(present, streamTables)));
        if (fault == 4) {
            spoil(packed);
        }
        bytes.addAll(packed);
        FontPacker x = new FontPacker();
        ReferencePacker y = new ReferencePacker();
        x.glyph(5);
        y.glyph(5);
        Check.load(x, bytes.stream().mapToInt(Integer::intValue).toArray());
        bytes.forEach(b -> y.put(b, 1));
        same("read " + bytes, x::read, y::read);
        same("stage " + bytes, x::stage, y::stage);
        reached[x.stage()]++;
        same("plain", x::plain, y::plain);
        compareBuffers(x, y);
        same("pack", x::pack, y::pack);
        compareBuffers(x, y);
    }
}
