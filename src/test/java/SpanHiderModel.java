import java.util.ArrayList;
import java.util.List;

// Long runs of calls, each answer compared with a plain model written from the document's terms.
// The runs come from a counter-fed mixer, so that they are the same every time.
public final class SpanHiderModel {
    private static final int RUNS = 300;
    // The document promises 512 calls; a step makes at most 11 (newShape).
    private static final int CALLS = 512;
    private static final int CALLS_OF_A_STEP = 11;
    private static final int COLUMNS = 24;
    private static final int ROWS = 12;

    private static int wrong = 0;

    private final SpanHider hider = new SpanHider();
    private final List<int[]> draft = new ArrayList<>();
    private int[] draftPlane = {0, 0, 0};
    private final List<List<int[]>> shapes = new ArrayList<>();
    private final List<int[]> planes = new ArrayList<>();
    private long seed;
    private int calls = 0;
    private final int run;

    private SpanHiderModel(int run) {
        this.run = run;
        this.seed = 0x9E3779B97F4A7C15L * (run + 1);
    }

    public static void main(String[] args) {
        for (int run = 0; run < RUNS && wrong < 20; run++) {
            new SpanHiderModel(run).play();
        }
        System.out.println(wrong == 0 ? "all answers are as due" : wrong + " answers are not as due");
        if (wrong != 0) {
            System.exit(1);
        }
    }

    private void play() {
        while (calls + CALLS_OF_A_STEP <= CALLS && wrong < 20) {
            // Every other run begins with many changes, the rest mix them with questions throughout.
            boolean change = run % 2 == 0 ? calls < 80 || upTo(10) == 0 : upTo(2) == 0;
            if (change) {
                change();
            } else {
                ask();
            }
        }
    }

    private void due(String call, int got, int want) {
        calls++;
        if (got != want) {
            wrong++;
            System.out.println("run " + run + ": " + call + " answered " + got + ", due is " + want);
        }
    }

    // A number from 0 to bound - 1.
    private int upTo(int bound) {
        seed += 0x9E3779B97F4A7C15L;
        long z = seed;
        z = (z ^ (z >>> 30)) * 0xBF58476D1CE4E5B9L;
        z = (z ^ (z >>> 27)) * 0x94D049BB133111EBL;
        z ^= z >>> 31;
        return (int) Long.remainderUnsigned(z, bound);
    }

    // Mostly within least .. greatest, at times just outside or far away.
    private int near(int least, int greatest) {
        switch (upTo(40)) {
            case 0: return least - 1;
            case 1: return greatest + 1;
            case 2: return upTo(2) == 0 ? Integer.MIN_VALUE : Integer.MAX_VALUE;
            case 3: return least;
            case 4: return greatest;
            default: return least + upTo(greatest - least + 1);
        }
    }

    private void change() {
        switch (upTo(20)) {
            case 0: clear(); break;
            case 1: case 2: plane(); break;
            case 3: case 4: case 5: draw(); break;
            case 6: if (upTo(3) == 0) { remove(); } break;
            case 7: case 8: shift(); break;
            case 9: tilt(); break;
            case 10: newShape(); break;
            default: point(near(0, COLUMNS), near(0, ROWS)); break;
        }
    }

    private void newShape() {
        clear();
        int count = 3 + upTo(6);
        for (int k = 0; k < count; k++) {
            point(upTo(COLUMNS + 1), upTo(ROWS + 1));
        }
        plane();
        draw();
    }

    private boolean isDrawn(int polygon) {
        return polygon >= 0 && polygon < shapes.size();
    }

    private void point(int x, int y) {
        int want;
        if (x < 0 || x > COLUMNS || y < 0 || y > ROWS) {
            want = -1;
        } else if (draft.size() == 8) {
            want = -2;
        } else {
            draft.add(new int[] {x, y});
            want = draft.size();
        }
        due("point(" + x + ", " + y + ")", hider.point(x, y), want);
    }

    private void clear() {
        int want = draft.size();
        draft.clear();
        due("clear()", hider.clear(), want);
    }

    private void plane() {
        // Small planes half of the time, so that equal depths come up.
        boolean small = upTo(2) == 0;
        int a = small ? upTo(3) - 1 : near(-30, 30);
        int b = small ? upTo(3) - 1 : near(-30, 30);
        int c = small ? upTo(9) - 4 : near(-3000, 3000);
        int want = 0;
        if (a < -30 || a > 30 || b < -30 || b > 30) {
            want = -1;
        } else if (c < -3000 || c > 3000) {
            want = -2;
        } else {
            draftPlane = new int[] {a, b, c};
        }
        due("plane(" + a + ", " + b + ", " + c + ")", hider.plane(a, b, c), want);
    }

    private void draw() {
        int want;
        if (draft.size() < 3) {
            want = -1;
        } else if (shapes.size() == 6) {
            want = -2;
        } else {
            want = shapes.size();
            shapes.add(new ArrayList<>(draft));
            planes.add(draftPlane);
        }
        due("draw()", hider.draw(), want);
    }

    private void remove() {
        int polygon = near(0, 5);
        int want = -1;
        if (isDrawn(polygon)) {
            shapes.remove(polygon);
            planes.remove(polygon);
            want = shapes.size();
        }
        due("remove(" + polygon + ")", hider.remove(polygon), want);
    }

    private void shift() {
        int polygon = near(0, 5);
        int dx = near(-3, 3);
        int dy = near(-2, 2);
        int want = -1;
        if (isDrawn(polygon)) {
            want = 0;
            List<int[]> moved = new ArrayList<>();
            for (int[] place : shapes.get(polygon)) {
                long x = (long) place[0] + dx;
                long y = (long) place[1] + dy;
                if (x < 0 || x > COLUMNS || y < 0 || y > ROWS) {
                    want = -2;
                }
                moved.add(new int[] {(int) x, (int) y});
            }
            if (want == 0) {
                shapes.set(polygon, moved);
            }
        }
        due("shift(" + polygon + ", " + dx + ", " + dy + ")", hider.shift(polygon, dx, dy), want);
    }

    private void tilt() {
        int polygon = near(0, 5);
        int want = -1;
        if (isDrawn(polygon)) {
            planes.set(polygon, draftPlane);
            want = 0;
        }
        due("tilt(" + polygon + ")", hider.tilt(polygon), want);
    }

    private void ask() {
        int polygon = near(0, 5);
        int i = near(0, COLUMNS - 1);
        int j = near(0, ROWS - 1);
        int span = near(0, 6);
        boolean pixel = i >= 0 && i < COLUMNS && j >= 0 && j < ROWS;
        boolean row = j >= 0 && j < ROWS;
        String where = "(" + i + ", " + j + ")";
        switch (upTo(11)) {
            case 0: due("drawn()", hider.drawn(), shapes.size()); break;
            case 1: due("owner" + where, hider.owner(i, j), pixel ? ownerOf(i, j) : -1); break;
            case 2: due("depthAt" + where, hider.depthAt(i, j), pixel ? visibleDepth(i, j) : 1000000); break;
            case 3: due("covers " + polygon + where, hider.covers(polygon, i, j),
                !isDrawn(polygon) ? -1 : !pixel ? -2 : isCovered(polygon, i, j) ? 1 : 0); break;
            case 4: due("spans(" + j + ")", hider.spans(j), row ? spanStarts(j).size() : -1); break;
            case 5: due("spanStart(" + j + ", " + span + ")", hider.spanStart(j, span),
                row ? wantedStart(j, span) : -1); break;
            case 6: due("spanOwner(" + j + ", " + span + ")", hider.spanOwner(j, span),
                row ? wantedSpanOwner(j, span) : -1); break;
            case 7: due("owned(" + polygon + ")", hider.owned(polygon),
                isDrawn(polygon) ? count(polygon, true) : -1); break;
            case 8: due("covered(" + polygon + ")", hider.covered(polygon),
                isDrawn(polygon) ? count(polygon, false) : -1); break;
            case 9: due("lit()", hider.lit(), lit()); break;
            default: due("seams()", hider.seams(), seams()); break;
        }
    }

    // X is rounded up to a whole number, which no whole px can tell from X itself.
    private boolean isCovered(int polygon, int i, int j) {
        int px = 2 * i + 1;
        int py = 2 * j + 1;
        List<int[]> shape = shapes.get(polygon);
        int crossings = 0;
        for (int k = 0; k < shape.size(); k++) {
            int[] from = shape.get(k);
            int[] to = shape.get((k + 1) % shape.size());
            if (Math.min(2 * from[1], 2 * to[1]) < py && py < Math.max(2 * from[1], 2 * to[1])) {
                int upper = (py - 2 * from[1]) * (to[0] - from[0]);
                int x = 2 * from[0] - Math.floorDiv(-upper, to[1] - from[1]);
                if (x <= px) {
                    crossings++;
                }
            }
        }
        return crossings % 2 == 1;
    }

    private int depthOf(int polygon, int i, int j) {
        int[] plane = planes.get(polygon);
        return plane[0] * (2 * i + 1) + plane[1] * (2 * j + 1) + plane[2];
    }

    // From the last polygon to the first, so that the least number wins among equals.
    private int ownerOf(int i, int j) {
        int best = -2;
        for (int p = shapes.size() - 1; p >= 0; p--) {
            if (isCovered(p, i, j) && (best == -2 || depthOf(p, i, j) <= depthOf(best, i, j))) {
                best = p;
            }
        }
        return best;
    }

    private int visibleDepth(int i, int j) {
        int owner = ownerOf(i, j);
        return owner == -2 ? 1000000 : depthOf(owner, i, j);
    }

    private List<Integer> spanStarts(int j) {
        List<Integer> starts = new ArrayList<>();
        for (int i = 0; i < COLUMNS; i++) {
            if (i == 0 || ownerOf(i, j) != ownerOf(i - 1, j)) {
                starts.add(i);
            }
        }
        return starts;
    }

    private int wantedStart(int j, int span) {
        List<Integer> starts = spanStarts(j);
        return span < 0 || span >= starts.size() ? -2 : starts.get(span);
    }

    private int wantedSpanOwner(int j, int span) {
        int start = wantedStart(j, span);
        if (start == -2) {
            return -2;
        }
        int owner = ownerOf(start, j);
        return owner == -2 ? -3 : owner;
    }

    private int count(int polygon, boolean owned) {
        int count = 0;
        for (int pixel = 0; pixel < COLUMNS * ROWS; pixel++) {
            int i = pixel % COLUMNS;
            int j = pixel / COLUMNS;
            if (owned ? ownerOf(i, j) == polygon : isCovered(polygon, i, j)) {
                count++;
            }
        }
        return count;
    }

    private int lit() {
        int count = 0;
        for (int p = 0; p < shapes.size(); p++) {
            count += count(p, true);
        }
        return count;
    }

    private int seams() {
        int count = 0;
        for (int j = 0; j < ROWS; j++) {
            List<Integer> starts = spanStarts(j);
            for (int start : starts.subList(1, starts.size())) {
                if (ownerOf(start, j) != -2 && ownerOf(start - 1, j) != -2) {
                    count++;
                }
            }
        }
        return count;
    }
}
