// For each promise of the document: ordinary inputs, the edges it names, and wrong inputs.
// The answers that are due were worked out by hand from the document.
public final class SpanHiderPromises {
    private static final int LEAST = Integer.MIN_VALUE;
    private static final int GREATEST = Integer.MAX_VALUE;
    private static final int NO_DEPTH = 1000000;

    private static int wrong = 0;

    public static void main(String[] args) {
        newObject();
        pointCounts();
        pointRefuses();
        refusedPointChangesNothing();
        clearEmptiesTheList();
        clearKeepsThePlane();
        planeRanges();
        refusedPlaneChangesNothing();
        drawNumbers();
        drawCopiesTheDraft();
        drawRefuses();
        removeRenumbers();
        removeMovesEverything();
        removeRefuses();
        drawAfterRemove();
        shiftMoves();
        shiftRefuses();
        refusedShiftChangesNothing();
        fullPolygonsStayApart();
        tiltTakesTheDraftsPlane();
        drawnCounts();
        ownerIsTheLeastDepth();
        ownerOfEqualDepths();
        ownerRefuses();
        depthFollowsThePlane();
        depthWithoutOwner();
        coversOnTheEdge();
        coversBetweenCentres();
        coversOddCrossings();
        coversRepeatedPoints();
        coversRefuses();
        spansOfARow();
        mostSpans();
        spansRefuse();
        ownedAndCovered();
        litCountsOnce();
        seamsCountPairs();
        questionsChangeNothing();
        System.out.println(wrong == 0 ? "all answers are as due" : wrong + " answers are not as due");
        if (wrong != 0) {
            System.exit(1);
        }
    }

    private static void due(String what, int got, int want) {
        if (got != want) {
            wrong++;
            System.out.println(what + " answered " + got + ", due is " + want);
        }
    }

    // Puts the points x, y, x, y, .. into an emptied draft.
    private static void draft(SpanHider h, int... places) {
        h.clear();
        for (int k = 0; k < places.length; k += 2) {
            due("draft: point", h.point(places[k], places[k + 1]), k / 2 + 1);
        }
    }

    private static void draftBox(SpanHider h, int left, int top, int right, int bottom) {
        draft(h, left, top, right, top, right, bottom, left, bottom);
    }

    private static int drawBox(SpanHider h, int left, int top, int right, int bottom, int c) {
        draftBox(h, left, top, right, bottom);
        due("box: plane", h.plane(0, 0, c), 0);
        return h.draw();
    }

    private static void newObject() {
        SpanHider h = new SpanHider();
        due("1: drawn", h.drawn(), 0);
        due("1: lit", h.lit(), 0);
        due("1: seams", h.seams(), 0);
        due("1: owner", h.owner(0, 0), -2);
        due("1: depthAt", h.depthAt(0, 0), NO_DEPTH);
        for (int j = 0; j < 12; j++) {
            due("1: spans", h.spans(j), 1);
            due("1: spanStart", h.spanStart(j, 0), 0);
            due("1: spanOwner", h.spanOwner(j, 0), -3);
        }
        due("1: covers", h.covers(0, 0, 0), -1);
        due("1: owned", h.owned(0), -1);
        due("1: covered", h.covered(0), -1);
        due("1: remove", h.remove(0), -1);
        due("1: shift", h.shift(0, 0, 0), -1);
        due("1: tilt", h.tilt(0), -1);
        due("1: draw", h.draw(), -1);
        due("1: the list is empty", h.clear(), 0);
        draftBox(h, 0, 0, 24, 12);
        due("1: draw with the first plane", h.draw(), 0);
        due("1: the first plane is (0, 0, 0)", h.depthAt(7, 5), 0);
        due("1: the first plane is (0, 0, 0), too", h.depthAt(23, 11), 0);
        SpanHider other = new SpanHider();
        due("1: objects share nothing drawn", other.drawn(), 0);
        due("1: objects share no draft", other.clear(), 0);
    }

    private static void pointCounts() {
        SpanHider h = new SpanHider();
        for (int k = 1; k <= 8; k++) {
            due("2: point " + k, h.point(k, k), k);
        }
        due("2: the ninth", h.point(0, 0), -2);
        due("2: the ninth again", h.point(24, 12), -2);
        due("2: place before room", h.point(25, 0), -1);
        due("2: place before room, row", h.point(0, 13), -1);
        due("2: eight stay", h.clear(), 8);
        due("2: room again", h.point(0, 0), 1);
    }

    private static void pointRefuses() {
        SpanHider h = new SpanHider();
        int[] badX = {-1, 25, LEAST, GREATEST};
        int[] badY = {-1, 13, 24, LEAST, GREATEST};
        for (int x : badX) {
            due("2: point x " + x, h.point(x, 5), -1);
        }
        for (int y : badY) {
            due("2: point y " + y, h.point(5, y), -1);
        }
        due("2: none was put", h.clear(), 0);
        due("2: corner", h.point(0, 0), 1);
        due("2: corner right", h.point(24, 0), 2);
        due("2: corner far", h.point(24, 12), 3);
        due("2: corner below", h.point(0, 12), 4);
        h.draw();
        due("2: the corners span the window", h.covered(0), 288);
    }

    private static void refusedPointChangesNothing() {
        SpanHider h = new SpanHider();
        draft(h, 0, 0, 1, 0, 2, 0, 2, 1, 2, 2, 1, 2, 0, 2, 0, 1);
        due("2: full", h.point(24, 12), -2);
        due("2: draw after a refusal", h.draw(), 0);
        due("2: the points stayed", h.covered(0), 4);
    }

    private static void clearEmptiesTheList() {
        SpanHider h = new SpanHider();
        due("3: clear of nothing", h.clear(), 0);
        h.point(1, 1);
        h.point(2, 2);
        due("3: clear of two", h.clear(), 2);
        due("3: clear again", h.clear(), 0);
        due("3: draw after clear", h.draw(), -1);
        draft(h, 0, 0, 24, 0, 24, 12, 0, 12);
        draft(h, 0, 0, 2, 0, 2, 2);
        due("3: only new points are drawn", h.draw(), 0);
        due("3: X = py lies on the centres of the diagonal", h.covered(0), 3);
        due("3: drawn ones stay", h.drawn(), 1);
    }

    private static void clearKeepsThePlane() {
        SpanHider h = new SpanHider();
        h.plane(1, 2, 3);
        h.clear();
        draftBox(h, 0, 0, 24, 12);
        h.draw();
        due("3: the plane stays", h.depthAt(0, 0), 6);
    }

    private static void planeRanges() {
        SpanHider h = new SpanHider();
        int[] badSlopes = {-31, 31, LEAST, GREATEST};
        int[] badOffsets = {-3001, 3001, LEAST, GREATEST};
        for (int bad : badSlopes) {
            due("4: a " + bad, h.plane(bad, 0, 0), -1);
            due("4: b " + bad, h.plane(0, bad, 0), -1);
            due("4: a before c", h.plane(bad, 0, 3001), -1);
            due("4: b before c", h.plane(0, bad, -3001), -1);
        }
        for (int bad : badOffsets) {
            due("4: c " + bad, h.plane(0, 0, bad), -2);
        }
        draftBox(h, 0, 0, 24, 12);
        due("4: least", h.plane(-30, -30, -3000), 0);
        due("4: draw least", h.draw(), 0);
        due("4: least depth", h.depthAt(23, 11), -5100);
        due("4: greatest", h.plane(30, 30, 3000), 0);
        due("4: tilt greatest", h.tilt(0), 0);
        due("4: greatest depth", h.depthAt(23, 11), 5100);
    }

    private static void refusedPlaneChangesNothing() {
        SpanHider h = new SpanHider();
        draftBox(h, 0, 0, 24, 12);
        h.plane(1, 10, 100);
        due("4: bad a", h.plane(31, 2, 2), -1);
        due("4: bad b", h.plane(2, 31, 2), -1);
        due("4: bad c", h.plane(2, 2, 3001), -2);
        h.draw();
        due("4: the plane stayed", h.depthAt(0, 0), 111);
        h.plane(2, 2, 2);
        due("4: a drawn plane stays", h.depthAt(0, 0), 111);
    }

    private static void drawNumbers() {
        SpanHider h = new SpanHider();
        due("5: no points", h.draw(), -1);
        h.point(0, 0);
        due("5: one point", h.draw(), -1);
        h.point(4, 0);
        due("5: two points", h.draw(), -1);
        due("5: none was drawn", h.drawn(), 0);
        h.point(4, 4);
        due("5: three points", h.draw(), 0);
        due("5: the same again", h.draw(), 1);
        due("5: the draft stays", h.clear(), 3);
        due("5: drawn", h.drawn(), 2);
    }

    private static void drawCopiesTheDraft() {
        SpanHider h = new SpanHider();
        drawBox(h, 0, 0, 3, 2, 50);
        drawBox(h, 10, 0, 20, 12, 60);
        due("5: the first keeps its points", h.covered(0), 6);
        due("5: the second has its own", h.covered(1), 120);
        due("5: the first keeps its plane", h.depthAt(0, 0), 50);
        due("5: the second's plane", h.depthAt(10, 0), 60);
        due("5: shift", h.shift(1, 4, 0), 0);
        due("5: draw the draft again", h.draw(), 2);
        due("5: a shift leaves the draft", h.covers(2, 10, 0), 1);
        due("5: a shift leaves the draft, right", h.covers(2, 20, 0), 0);
    }

    private static void drawRefuses() {
        SpanHider h = new SpanHider();
        for (int k = 0; k < 6; k++) {
            due("5: draw " + k, drawBox(h, k, 0, k + 1, 1, k), k);
        }
        due("5: the seventh", drawBox(h, 0, 0, 24, 12, -5), -2);
        due("5: six stay", h.drawn(), 6);
        due("5: nothing was added", h.lit(), 6);
        due("5: the last one stays", h.depthAt(5, 0), 5);
        due("5: the draft stays on a refusal", h.clear(), 4);
        due("5: points before room", h.draw(), -1);
    }

    private static void removeRenumbers() {
        SpanHider h = new SpanHider();
        for (int k = 0; k < 6; k++) {
            drawBox(h, k, 0, k + 1, 1, k);
        }
        due("6: remove the first", h.remove(0), 5);
        due("6: its pixel", h.owner(0, 0), -2);
        due("6: the second is now 0", h.owner(1, 0), 0);
        due("6: the last is now 4", h.owner(5, 0), 4);
        due("6: remove in the middle", h.remove(2), 4);
        due("6: before it", h.owner(2, 0), 1);
        due("6: its pixel is free", h.owner(3, 0), -2);
        due("6: after it", h.owner(4, 0), 2);
        due("6: depth goes along", h.depthAt(5, 0), 5);
        due("6: remove the last", h.remove(3), 3);
        due("6: the last's pixel", h.owner(5, 0), -2);
        due("6: the rest", h.owner(4, 0), 2);
        due("6: remove", h.remove(0), 2);
        due("6: remove", h.remove(0), 1);
        due("6: remove the only one", h.remove(0), 0);
        due("6: nothing is lit", h.lit(), 0);
    }

    private static void removeMovesEverything() {
        SpanHider h = new SpanHider();
        draft(h, 0, 0, 1, 0, 1, 1);
        h.draw();
        draft(h, 2, 0, 4, 0, 6, 0, 8, 0, 8, 4, 6, 4, 4, 4, 2, 4);
        h.plane(1, 2, 3);
        h.draw();
        draft(h, 12, 6, 24, 6, 24, 12, 12, 12);
        h.plane(-1, -2, -3);
        h.draw();
        due("6: remove", h.remove(0), 2);
        due("6: eight points move", h.covered(0), 24);
        due("6: the plane moves", h.depthAt(3, 1), 7 + 6 + 3);
        due("6: four points move", h.covered(1), 72);
        due("6: the plane moves, too", h.depthAt(12, 6), -25 - 26 - 3);
        due("6: the draft stays", h.clear(), 4);
        due("6: eight before four", h.remove(0), 1);
        due("6: four points in the place of eight", h.covered(0), 72);
    }

    private static void removeRefuses() {
        SpanHider h = new SpanHider();
        drawBox(h, 0, 0, 2, 2, 0);
        drawBox(h, 4, 0, 6, 2, 0);
        int[] bad = {-1, 2, 5, 6, LEAST, GREATEST};
        for (int polygon : bad) {
            due("6: remove " + polygon, h.remove(polygon), -1);
        }
        due("6: both stay", h.drawn(), 2);
        due("6: both stay lit", h.lit(), 8);
    }

    private static void drawAfterRemove() {
        SpanHider h = new SpanHider();
        for (int k = 0; k < 6; k++) {
            drawBox(h, k, 0, k + 1, 1, k);
        }
        h.remove(1);
        due("6: room for one", drawBox(h, 10, 2, 12, 4, 9), 5);
        due("6: the new one", h.owned(5), 4);
        due("6: the one before", h.owner(5, 0), 4);
        due("6: full again", h.draw(), -2);
    }

    private static void shiftMoves() {
        SpanHider h = new SpanHider();
        draftBox(h, 2, 3, 5, 5);
        h.plane(1, 1, 0);
        h.draw();
        drawBox(h, 0, 0, 1, 1, 0);
        due("7: by nothing", h.shift(0, 0, 0), 0);
        due("7: still there", h.covers(0, 2, 3), 1);
        due("7: right and down", h.shift(0, 4, 2), 0);
        due("7: the old corner", h.covers(0, 2, 3), 0);
        due("7: the new corner", h.covers(0, 6, 5), 1);
        due("7: the new far corner", h.covers(0, 8, 6), 1);
        due("7: beside it", h.covers(0, 9, 6), 0);
        due("7: below it", h.covers(0, 8, 7), 0);
        due("7: the plane stays as it is", h.depthAt(6, 5), 13 + 11);
        due("7: to the right end", h.shift(0, 15, 5), 0);
        due("7: right end", h.covers(0, 23, 11), 1);
        due("7: to the left end", h.shift(0, -21, -10), 0);
        due("7: left end", h.covers(0, 0, 0), 1);
        due("7: size stays", h.covered(0), 6);
        due("7: the other stays", h.covered(1), 1);
    }

    private static void shiftRefuses() {
        SpanHider h = new SpanHider();
        drawBox(h, 2, 3, 5, 5, 0);
        int[] bad = {-1, 1, 6, LEAST, GREATEST};
        for (int polygon : bad) {
            due("7: polygon " + polygon, h.shift(polygon, 0, 0), -1);
            due("7: polygon first", h.shift(polygon, 100, 100), -1);
        }
        int[] badX = {-3, 20, 24, LEAST, LEAST + 1, GREATEST, GREATEST - 1};
        int[] badY = {-4, 8, 12, LEAST, LEAST + 1, GREATEST, GREATEST - 1};
        for (int dx : badX) {
            due("7: dx " + dx, h.shift(0, dx, 0), -2);
        }
        for (int dy : badY) {
            due("7: dy " + dy, h.shift(0, 0, dy), -2);
        }
        due("7: both far", h.shift(0, LEAST, LEAST), -2);
        due("7: both far", h.shift(0, GREATEST, GREATEST), -2);
        due("7: unmoved", h.covers(0, 2, 3), 1);
        due("7: unmoved size", h.covered(0), 6);
    }

    private static void refusedShiftChangesNothing() {
        SpanHider h = new SpanHider();
        draft(h, 0, 0, 4, 0, 20, 12);
        h.draw();
        int before = h.covered(0);
        due("7: only the last point would leave", h.shift(0, 5, 0), -2);
        due("7: only the last point would leave, below", h.shift(0, 0, 1), -2);
        due("7: no point has moved", h.covered(0), before);
        due("7: the corner is there", h.covers(0, 2, 0), 1);
        due("7: up to the end", h.shift(0, 4, 0), 0);
        due("7: no further", h.shift(0, 1, 0), -2);
        due("7: back", h.shift(0, -4, 0), 0);
        due("7: no further back", h.shift(0, -1, 0), -2);
    }

    private static void drawSixOfEightPoints(SpanHider h) {
        for (int k = 0; k < 6; k++) {
            int x = 4 * k;
            draft(h, x, 2, x + 1, 2, x + 2, 2, x + 2, 3, x + 2, 4, x + 1, 4, x, 4, x, 3);
            due("5: draw of eight points", h.draw(), k);
        }
    }

    // Six polygons of eight points are the most there can be: a change of one must not reach the next.
    private static void fullPolygonsStayApart() {
        SpanHider h = new SpanHider();
        drawSixOfEightPoints(h);
        for (int k = 0; k < 6; k++) {
            due("7: shift of eight points", h.shift(k, 2, 1), 0);
            for (int p = 0; p < 6; p++) {
                due("7: size of " + p, h.covered(p), 4);
                due("7: corner of " + p, h.covers(p, 4 * p + (p <= k ? 2 : 0), p <= k ? 3 : 2), 1);
            }
        }
        for (int left = 5; left >= 0; left--) {
            due("6: remove of eight points", h.remove(0), left);
            for (int p = 0; p < left; p++) {
                due("6: size of " + p, h.covered(p), 4);
                due("6: corner of " + p, h.covers(p, 4 * (p + 6 - left) + 2, 3), 1);
            }
        }
    }

    private static void tiltTakesTheDraftsPlane() {
        SpanHider h = new SpanHider();
        drawBox(h, 0, 0, 24, 12, 5);
        drawBox(h, 0, 0, 24, 12, 7);
        due("8: before", h.owner(3, 2), 0);
        h.plane(2, -3, 40);
        due("8: a plane alone changes nothing drawn", h.depthAt(3, 2), 5);
        due("8: tilt", h.tilt(0), 0);
        due("8: the other comes forward", h.owner(3, 2), 1);
        due("8: in another corner the tilted one", h.owner(0, 11), 0);
        due("8: its depth", h.depthAt(0, 11), 2 - 69 + 40);
        due("8: a later plane", h.plane(0, 0, 1), 0);
        due("8: changes nothing tilted", h.depthAt(0, 11), 2 - 69 + 40);
        int[] bad = {-1, 2, 6, LEAST, GREATEST};
        for (int polygon : bad) {
            due("8: tilt " + polygon, h.tilt(polygon), -1);
        }
        due("8: still", h.depthAt(0, 11), 2 - 69 + 40);
        due("8: points stay", h.covered(0), 288);
        due("8: the draft's list stays", h.clear(), 4);
        due("8: tilt with an empty list", h.tilt(1), 0);
        due("8: depth", h.depthAt(3, 2), 1);
    }

    private static void drawnCounts() {
        SpanHider h = new SpanHider();
        draftBox(h, 0, 0, 1, 1);
        due("9: a draft is not drawn", h.drawn(), 0);
        for (int k = 1; k <= 6; k++) {
            h.draw();
            due("9: drawn", h.drawn(), k);
        }
        h.draw();
        due("9: no seventh", h.drawn(), 6);
        h.remove(3);
        due("9: after remove", h.drawn(), 5);
        h.clear();
        due("9: after clear", h.drawn(), 5);
    }

    private static void ownerIsTheLeastDepth() {
        SpanHider h = new SpanHider();
        drawBox(h, 0, 0, 10, 12, 30);
        drawBox(h, 4, 0, 14, 12, -20);
        drawBox(h, 8, 0, 18, 12, 10);
        due("10: first alone", h.owner(3, 6), 0);
        due("10: second before first", h.owner(4, 6), 1);
        due("10: second before all", h.owner(9, 6), 1);
        due("10: third alone", h.owner(14, 6), 2);
        due("10: none", h.owner(18, 6), -2);
        due("10: depth", h.depthAt(9, 6), -20);
        // Two planes that cross: 2 * px against 40 are equal at no centre but part after px = 19.
        SpanHider crossed = new SpanHider();
        drawBox(crossed, 0, 0, 24, 12, 40);
        crossed.plane(2, 0, 0);
        crossed.draw();
        due("10: nearer on the left", crossed.owner(9, 0), 1);
        due("10: farther on the right", crossed.owner(10, 0), 0);
    }

    private static void ownerOfEqualDepths() {
        SpanHider h = new SpanHider();
        drawBox(h, 0, 0, 24, 12, 9);
        drawBox(h, 0, 0, 24, 12, 5);
        drawBox(h, 0, 0, 24, 12, 5);
        due("10: the least number of equals", h.owner(0, 0), 1);
        h.remove(1);
        due("10: then the other", h.owner(0, 0), 1);
        // 3 * px - 4 * py + c is 5 at px = 7, py = 5 for c = 4: equal at single pixels only.
        h.plane(3, -4, 4);
        h.tilt(0);
        due("10: equal at one pixel", h.owner(3, 2), 0);
        due("10: farther beside it", h.owner(4, 2), 1);
        due("10: nearer beside it", h.owner(2, 2), 0);
        due("10: nearer below it", h.owner(3, 3), 0);
        due("10: farther above it", h.owner(3, 1), 1);
    }

    private static void ownerRefuses() {
        SpanHider h = new SpanHider();
        drawBox(h, 0, 0, 24, 12, 0);
        int[] badI = {-1, 24, LEAST, GREATEST};
        int[] badJ = {-1, 12, 23, LEAST, GREATEST};
        for (int i : badI) {
            due("10: owner i " + i, h.owner(i, 0), -1);
            due("11: depthAt i " + i, h.depthAt(i, 0), NO_DEPTH);
        }
        for (int j : badJ) {
            due("10: owner j " + j, h.owner(0, j), -1);
            due("11: depthAt j " + j, h.depthAt(0, j), NO_DEPTH);
        }
        due("10: last pixel", h.owner(23, 11), 0);
        due("10: first pixel", h.owner(0, 0), 0);
    }

    private static void depthFollowsThePlane() {
        SpanHider h = new SpanHider();
        draftBox(h, 0, 0, 24, 12);
        h.plane(1, 0, 0);
        h.draw();
        due("11: px", h.depthAt(5, 3), 11);
        h.plane(0, 1, 0);
        h.tilt(0);
        due("11: py", h.depthAt(5, 3), 7);
        h.plane(0, 0, -1);
        h.tilt(0);
        due("11: c", h.depthAt(5, 3), -1);
        h.plane(-7, 11, -13);
        h.tilt(0);
        due("11: all", h.depthAt(5, 3), -77 + 77 - 13);
    }

    private static void depthWithoutOwner() {
        SpanHider h = new SpanHider();
        drawBox(h, 1, 1, 3, 3, -8);
        due("11: outside", h.depthAt(0, 0), NO_DEPTH);
        due("11: inside", h.depthAt(1, 1), -8);
        due("11: right of it", h.depthAt(3, 1), NO_DEPTH);
        due("11: below it", h.depthAt(1, 3), NO_DEPTH);
    }

    // The edge from (0, 0) to (12, 12) crosses row j at X = py, on the centre of pixel (j, j).
    private static void coversOnTheEdge() {
        int[][] rightOfIt = {{0, 0, 24, 0, 24, 12, 12, 12}, {0, 0, 12, 12, 24, 12, 24, 0}};
        int[][] leftOfIt = {{0, 0, 12, 12, 0, 12}, {0, 0, 0, 12, 12, 12}};
        for (int turn = 0; turn < 2; turn++) {
            SpanHider h = new SpanHider();
            draft(h, rightOfIt[turn]);
            h.draw();
            draft(h, leftOfIt[turn]);
            h.draw();
            for (int j = 0; j < 12; j++) {
                due("12: a left edge on the centre", h.covers(0, j, j), 1);
                due("12: a right edge on the centre", h.covers(1, j, j), 0);
                if (j > 0) {
                    due("12: before the left edge", h.covers(0, j - 1, j), 0);
                    due("12: before the right edge", h.covers(1, j - 1, j), 1);
                }
            }
            due("12: all right of it", h.covered(0), 288 - 66);
            due("12: all left of it", h.covered(1), 66);
        }
    }

    // Edges of slope one third: X is a true fraction and must not be cut to a whole number.
    private static void coversBetweenCentres() {
        SpanHider h = new SpanHider();
        // Falling: X = py / 3 at rows 0, 1, 2: 1/3, 1, 5/3.
        draft(h, 0, 0, 24, 0, 24, 3, 1, 3);
        h.draw();
        due("12: 1/3 <= 1", h.covers(0, 0, 0), 1);
        due("12: 1 <= 1", h.covers(0, 0, 1), 1);
        due("12: 5/3 > 1", h.covers(0, 0, 2), 0);
        due("12: 5/3 <= 3", h.covers(0, 1, 2), 1);
        // Rising: X = 2 - py / 3 at rows 0, 1, 2: 5/3, 1, 1/3.
        draft(h, 0, 3, 1, 0, 24, 0, 24, 3);
        h.draw();
        due("12: rising 5/3 > 1", h.covers(1, 0, 0), 0);
        due("12: rising 1 <= 1", h.covers(1, 0, 1), 1);
        due("12: rising 1/3 <= 1", h.covers(1, 0, 2), 1);
        due("12: rows below", h.covers(0, 5, 3), 0);
    }

    private static void coversOddCrossings() {
        SpanHider h = new SpanHider();
        // A notch: two prongs over columns 0 .. 1 and 4 .. 5, joined below row 3.
        draft(h, 0, 0, 2, 0, 2, 4, 4, 4, 4, 0, 6, 0, 6, 6, 0, 6);
        h.draw();
        due("12: left prong", h.covers(0, 1, 2), 1);
        due("12: in the notch", h.covers(0, 2, 2), 0);
        due("12: in the notch", h.covers(0, 3, 3), 0);
        due("12: right prong", h.covers(0, 4, 2), 1);
        due("12: right of it", h.covers(0, 6, 2), 0);
        due("12: below the notch", h.covers(0, 3, 4), 1);
        due("12: below it all", h.covers(0, 3, 6), 0);
        due("12: all", h.covered(0), 8 + 8 + 12);
        // The same box twice round crosses every row an even number of times.
        draft(h, 8, 0, 12, 0, 12, 4, 8, 4, 8, 0, 12, 0, 12, 4, 8, 4);
        h.draw();
        due("12: twice round covers nothing", h.covered(1), 0);
    }

    private static void coversRepeatedPoints() {
        SpanHider h = new SpanHider();
        draft(h, 5, 5, 5, 5, 5, 5);
        h.draw();
        due("12: one place", h.covered(0), 0);
        draft(h, 0, 3, 24, 3, 12, 3);
        h.draw();
        due("12: a level line", h.covered(1), 0);
        draft(h, 6, 0, 6, 12, 6, 6);
        h.draw();
        due("12: an upright line", h.covered(2), 0);
        draft(h, 1, 1, 1, 1, 4, 1, 4, 1, 4, 4, 4, 4, 1, 4, 1, 1);
        h.draw();
        due("12: a box with repeated points", h.covered(3), 9);
    }

    private static void coversRefuses() {
        SpanHider h = new SpanHider();
        drawBox(h, 0, 0, 24, 12, 0);
        int[] badPolygon = {-1, 1, 5, 6, LEAST, GREATEST};
        for (int polygon : badPolygon) {
            due("12: polygon " + polygon, h.covers(polygon, 0, 0), -1);
            due("12: polygon first", h.covers(polygon, -1, 12), -1);
            due("16: polygon " + polygon, h.owned(polygon), -1);
            due("17: polygon " + polygon, h.covered(polygon), -1);
        }
        int[] badI = {-1, 24, LEAST, GREATEST};
        int[] badJ = {-1, 12, 23, LEAST, GREATEST};
        for (int i : badI) {
            due("12: i " + i, h.covers(0, i, 0), -2);
        }
        for (int j : badJ) {
            due("12: j " + j, h.covers(0, 0, j), -2);
        }
        due("12: last pixel", h.covers(0, 23, 11), 1);
    }

    private static void spansOfARow() {
        SpanHider h = new SpanHider();
        drawBox(h, 2, 0, 8, 1, 5);
        drawBox(h, 4, 0, 6, 1, 1);
        drawBox(h, 8, 0, 10, 1, 7);
        drawBox(h, 20, 0, 24, 1, 7);
        int[] starts = {0, 2, 4, 6, 8, 10, 20};
        int[] owners = {-3, 0, 1, 0, 2, -3, 3};
        due("13: spans", h.spans(0), 7);
        for (int span = 0; span < 7; span++) {
            due("14: start of " + span, h.spanStart(0, span), starts[span]);
            due("15: owner of " + span, h.spanOwner(0, span), owners[span]);
        }
        due("14: no span 7", h.spanStart(0, 7), -2);
        due("15: no span 7", h.spanOwner(0, 7), -2);
        due("13: the row below is empty", h.spans(1), 1);
        due("14: it starts at 0", h.spanStart(1, 0), 0);
        due("15: it has no owner", h.spanOwner(1, 0), -3);
    }

    // Combs of two prongs each, six side by side: every column is a span.
    private static void mostSpans() {
        SpanHider h = new SpanHider();
        for (int k = 0; k < 6; k++) {
            int x = 4 * k;
            draft(h, x, 0, x + 1, 0, x + 1, 12, x + 2, 12, x + 2, 0, x + 3, 0, x + 3, 12, x, 12);
            h.draw();
        }
        for (int j = 0; j < 12; j += 11) {
            due("13: every column", h.spans(j), 24);
            for (int span = 0; span < 24; span++) {
                due("14: start", h.spanStart(j, span), span);
                due("15: owner", h.spanOwner(j, span), span % 2 == 0 ? span / 4 : -3);
            }
            due("14: no span 24", h.spanStart(j, 24), -2);
            due("15: no span 24", h.spanOwner(j, 24), -2);
        }
        due("19: gaps are no seams", h.seams(), 0);
    }

    private static void spansRefuse() {
        SpanHider h = new SpanHider();
        drawBox(h, 0, 0, 24, 12, 0);
        int[] badJ = {-1, 12, 23, LEAST, GREATEST};
        for (int j : badJ) {
            due("13: j " + j, h.spans(j), -1);
            due("14: j " + j, h.spanStart(j, 0), -1);
            due("15: j " + j, h.spanOwner(j, 0), -1);
            due("14: j first", h.spanStart(j, -1), -1);
            due("15: j first", h.spanOwner(j, -1), -1);
        }
        int[] badSpan = {-1, 1, 2, 24, LEAST, GREATEST};
        for (int span : badSpan) {
            due("14: span " + span, h.spanStart(11, span), -2);
            due("15: span " + span, h.spanOwner(11, span), -2);
        }
        due("13: one span", h.spans(11), 1);
        due("15: its owner", h.spanOwner(11, 0), 0);
    }

    private static void ownedAndCovered() {
        SpanHider h = new SpanHider();
        drawBox(h, 0, 0, 24, 12, 10);
        due("16: alone", h.owned(0), 288);
        drawBox(h, 3, 2, 8, 6, 5);
        due("16: behind", h.owned(0), 268);
        due("16: in front", h.owned(1), 20);
        due("17: behind", h.covered(0), 288);
        due("17: in front", h.covered(1), 20);
        drawBox(h, 3, 2, 8, 6, 5);
        due("16: hidden", h.owned(2), 0);
        due("17: hidden", h.covered(2), 20);
        drawBox(h, 22, 10, 24, 12, 5);
        due("16: the last corner", h.owned(3), 4);
        due("17: the last corner", h.covered(3), 4);
        due("16: no such", h.owned(4), -1);
        due("17: no such", h.covered(4), -1);
    }

    private static void litCountsOnce() {
        SpanHider h = new SpanHider();
        drawBox(h, 0, 0, 4, 4, 3);
        due("18: one", h.lit(), 16);
        drawBox(h, 2, 2, 6, 6, 1);
        due("18: two that overlap", h.lit(), 28);
        drawBox(h, 23, 11, 24, 12, 1);
        due("18: the last pixel", h.lit(), 29);
        drawBox(h, 0, 0, 24, 12, 3000);
        due("18: everything", h.lit(), 288);
    }

    private static void seamsCountPairs() {
        SpanHider h = new SpanHider();
        drawBox(h, 0, 0, 2, 12, 3);
        due("19: an owner beside none", h.seams(), 0);
        drawBox(h, 2, 0, 4, 6, 3);
        due("19: side by side in six rows", h.seams(), 6);
        drawBox(h, 4, 6, 6, 12, 3);
        due("19: with none between", h.seams(), 6);
        drawBox(h, 6, 11, 24, 12, 3);
        due("19: in the last row", h.seams(), 7);
        drawBox(h, 23, 11, 24, 12, 2);
        due("19: at the last column", h.seams(), 8);
        // Neighbours in a column, or at the ends of rows that follow each other, are no pairs.
        SpanHider rows = new SpanHider();
        drawBox(rows, 0, 0, 24, 1, 0);
        drawBox(rows, 0, 1, 24, 2, 0);
        due("19: above each other", rows.seams(), 0);
        due("18: above each other", rows.lit(), 48);
    }

    private static void askEverything(SpanHider h) {
        for (int k = -1; k <= 3; k++) {
            h.drawn();
            h.owner(k, k);
            h.depthAt(k, k);
            h.covers(k, 1, 1);
            h.spans(k);
            h.spanStart(k, k);
            h.spanOwner(k, k);
            h.owned(k);
            h.covered(k);
            h.lit();
            h.seams();
        }
    }

    private static void questionsChangeNothing() {
        SpanHider h = new SpanHider();
        drawBox(h, 0, 0, 4, 4, 3);
        drawBox(h, 2, 2, 6, 6, 1);
        h.plane(0, 0, 77);
        askEverything(h);
        due("no question changes what is drawn", h.drawn(), 2);
        due("no question changes what is lit", h.lit(), 28);
        due("no question changes what is owned", h.owned(0), 12);
        due("no question changes the seams", h.seams(), 2);
        due("no question changes the draft", h.draw(), 2);
        due("no question changes the draft's points", h.covered(2), 16);
        due("no question changes the draft's list", h.clear(), 4);
        h.remove(0);
        h.remove(0);
        due("no question changes the draft's plane", h.depthAt(2, 2), 77);
    }
}
