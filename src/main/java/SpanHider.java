/** Flat polygons with depth, seen in a window of 24 columns and 12 rows, row by row. */
public final class SpanHider {
    private static final int COLUMNS = 24;
    private static final int ROWS = 12;
    private static final int MIN_POINTS = 3;
    private static final int MAX_POINTS = 8;
    private static final int MAX_POLYGONS = 6;
    private static final int POINT_CELLS = MAX_POLYGONS * MAX_POINTS;
    private static final int MAX_SLOPE = 30;
    private static final int MAX_OFFSET = 3000;
    private static final int NO_DEPTH = 1000000;
    private static final int NOBODY = -1;
    private static final int NO_COLUMN = -1;

    private final int[] draftX = new int[MAX_POINTS];
    private final int[] draftY = new int[MAX_POINTS];
    private int draftPoints;
    private int draftA;
    private int draftB;
    private int draftC;

    // The points of polygon p stand in the cells from p * MAX_POINTS on.
    private final int[] pointX = new int[POINT_CELLS];
    private final int[] pointY = new int[POINT_CELLS];
    private final int[] pointCount = new int[MAX_POLYGONS];
    private final int[] planeA = new int[MAX_POLYGONS];
    private final int[] planeB = new int[MAX_POLYGONS];
    private final int[] planeC = new int[MAX_POLYGONS];
    private int polygons;

    public SpanHider() {
        draftPoints = 0;
        draftA = 0;
        draftB = 0;
        draftC = 0;
        polygons = 0;
    }

    public int point(int x, int y) {
        if (!isPlace(x, y)) {
            return -1;
        }
        if (draftPoints >= MAX_POINTS) {
            return -2;
        }
        draftX[draftPoints] = x;
        draftY[draftPoints] = y;
        draftPoints++;
        return draftPoints;
    }

    public int clear() {
        int had = draftPoints;
        draftPoints = 0;
        return had;
    }

    public int plane(int a, int b, int c) {
        if (a < -MAX_SLOPE || a > MAX_SLOPE || b < -MAX_SLOPE || b > MAX_SLOPE) {
            return -1;
        }
        if (c < -MAX_OFFSET || c > MAX_OFFSET) {
            return -2;
        }
        draftA = a;
        draftB = b;
        draftC = c;
        return 0;
    }

    public int draw() {
        if (draftPoints < MIN_POINTS) {
            return -1;
        }
        if (polygons >= MAX_POLYGONS) {
            return -2;
        }
        int number = polygons;
        int base = number * MAX_POINTS;
        for (int k = 0; k < draftPoints; k++) {
            pointX[base + k] = draftX[k];
            pointY[base + k] = draftY[k];
        }
        pointCount[number] = draftPoints;
        takeDraftPlane(number);
        polygons++;
        return number;
    }

    public int remove(int polygon) {
        if (!isDrawn(polygon)) {
            return -1;
        }
        for (int p = polygon; p + 1 < polygons; p++) {
            copyFromNext(p);
        }
        polygons--;
        return polygons;
    }

    public int shift(int polygon, int dx, int dy) {
        if (!isDrawn(polygon)) {
            return -1;
        }
        if (!staysInside(polygon, dx, dy)) {
            return -2;
        }
        int base = polygon * MAX_POINTS;
        for (int k = 0; k < pointCount[polygon]; k++) {
            pointX[base + k] += dx;
            pointY[base + k] += dy;
        }
        return 0;
    }

    public int tilt(int polygon) {
        if (!isDrawn(polygon)) {
            return -1;
        }
        takeDraftPlane(polygon);
        return 0;
    }

    public int drawn() {
        return polygons;
    }

    public int owner(int i, int j) {
        if (!isPixel(i, j)) {
            return -1;
        }
        int found = ownerOf(i, j);
        return found == NOBODY ? -2 : found;
    }

    public int depthAt(int i, int j) {
        if (!isPixel(i, j)) {
            return NO_DEPTH;
        }
        int found = ownerOf(i, j);
        return found == NOBODY ? NO_DEPTH : depthOf(found, i, j);
    }

    public int covers(int polygon, int i, int j) {
        if (!isDrawn(polygon)) {
            return -1;
        }
        if (!isPixel(i, j)) {
            return -2;
        }
        return isCovered(polygon, i, j) ? 1 : 0;
    }

    public int spans(int j) {
        if (!isRow(j)) {
            return -1;
        }
        int count = 1;
        int before = ownerOf(0, j);
        for (int i = 1; i < COLUMNS; i++) {
            int here = ownerOf(i, j);
            if (here != before) {
                count++;
            }
            before = here;
        }
        return count;
    }

    public int spanStart(int j, int span) {
        if (!isRow(j)) {
            return -1;
        }
        int start = startOf(j, span);
        return start == NO_COLUMN ? -2 : start;
    }

    public int spanOwner(int j, int span) {
        if (!isRow(j)) {
            return -1;
        }
        int start = startOf(j, span);
        if (start == NO_COLUMN) {
            return -2;
        }
        int found = ownerOf(start, j);
        return found == NOBODY ? -3 : found;
    }

    public int owned(int polygon) {
        if (!isDrawn(polygon)) {
            return -1;
        }
        int count = 0;
        for (int j = 0; j < ROWS; j++) {
            for (int i = 0; i < COLUMNS; i++) {
                if (ownerOf(i, j) == polygon) {
                    count++;
                }
            }
        }
        return count;
    }

    public int covered(int polygon) {
        if (!isDrawn(polygon)) {
            return -1;
        }
        int count = 0;
        for (int j = 0; j < ROWS; j++) {
            for (int i = 0; i < COLUMNS; i++) {
                if (isCovered(polygon, i, j)) {
                    count++;
                }
            }
        }
        return count;
    }

    public int lit() {
        int count = 0;
        for (int j = 0; j < ROWS; j++) {
            for (int i = 0; i < COLUMNS; i++) {
                if (ownerOf(i, j) != NOBODY) {
                    count++;
                }
            }
        }
        return count;
    }

    public int seams() {
        int count = 0;
        for (int j = 0; j < ROWS; j++) {
            int before = ownerOf(0, j);
            for (int i = 1; i < COLUMNS; i++) {
                int here = ownerOf(i, j);
                if (before != NOBODY && here != NOBODY && here != before) {
                    count++;
                }
                before = here;
            }
        }
        return count;
    }

    // Takes longs so that a point moved by any int is judged where it would truly lie.
    private static boolean isPlace(long x, long y) {
        return x >= 0 && x <= COLUMNS && y >= 0 && y <= ROWS;
    }

    private static boolean isRow(int j) {
        return j >= 0 && j < ROWS;
    }

    private static boolean isPixel(int i, int j) {
        return i >= 0 && i < COLUMNS && isRow(j);
    }

    private boolean isDrawn(int polygon) {
        return polygon >= 0 && polygon < polygons;
    }

    private void takeDraftPlane(int polygon) {
        planeA[polygon] = draftA;
        planeB[polygon] = draftB;
        planeC[polygon] = draftC;
    }

    private void copyFromNext(int polygon) {
        int next = polygon + 1;
        int base = polygon * MAX_POINTS;
        int nextBase = next * MAX_POINTS;
        for (int k = 0; k < pointCount[next]; k++) {
            pointX[base + k] = pointX[nextBase + k];
            pointY[base + k] = pointY[nextBase + k];
        }
        pointCount[polygon] = pointCount[next];
        planeA[polygon] = planeA[next];
        planeB[polygon] = planeB[next];
        planeC[polygon] = planeC[next];
    }

    private boolean staysInside(int polygon, long dx, long dy) {
        int base = polygon * MAX_POINTS;
        for (int k = 0; k < pointCount[polygon]; k++) {
            if (!isPlace(pointX[base + k] + dx, pointY[base + k] + dy)) {
                return false;
            }
        }
        return true;
    }

    private int ownerOf(int i, int j) {
        int best = NOBODY;
        int bestDepth = 0;
        for (int p = 0; p < polygons; p++) {
            if (isCovered(p, i, j)) {
                int depth = depthOf(p, i, j);
                // Strictly less, so that of equal depths the least number stays.
                if (best == NOBODY || depth < bestDepth) {
                    best = p;
                    bestDepth = depth;
                }
            }
        }
        return best;
    }

    private int depthOf(int polygon, int i, int j) {
        int px = 2 * i + 1;
        int py = 2 * j + 1;
        return planeA[polygon] * px + planeB[polygon] * py + planeC[polygon];
    }

    private boolean isCovered(int polygon, int i, int j) {
        int px = 2 * i + 1;
        int py = 2 * j + 1;
        int base = polygon * MAX_POINTS;
        int count = pointCount[polygon];
        boolean odd = false;
        for (int k = 0; k < count; k++) {
            int next = k + 1 < count ? k + 1 : 0;
            if (crossesUpTo(base + k, base + next, px, py)) {
                odd = !odd;
            }
        }
        return odd;
    }

    // Whether the edge between two point cells crosses the row of py at some X <= px.
    private boolean crossesUpTo(int from, int to, int px, int py) {
        int x1 = 2 * pointX[from];
        int y1 = 2 * pointY[from];
        int x2 = 2 * pointX[to];
        int y2 = 2 * pointY[to];
        boolean down = y1 < py && py < y2;
        boolean up = y2 < py && py < y1;
        if (!down && !up) {
            return false;
        }
        // Multiplied out by y2 - y1, so that the fraction X stays exact; an upward edge turns the sign.
        int crossing = (py - y1) * (x2 - x1);
        int reach = (px - x1) * (y2 - y1);
        return down ? crossing <= reach : crossing >= reach;
    }

    // The first column of a span of row j, or NO_COLUMN if the row has no such span.
    private int startOf(int j, int span) {
        if (span == 0) {
            return 0;
        }
        int number = 0;
        int before = ownerOf(0, j);
        for (int i = 1; i < COLUMNS; i++) {
            int here = ownerOf(i, j);
            if (here != before) {
                number++;
                if (number == span) {
                    return i;
                }
            }
            before = here;
        }
        return NO_COLUMN;
    }
}
