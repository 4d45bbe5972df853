import java.util.ArrayList;
import java.util.List;

// A test of its own for each sentence of the document that names a boundary case: too small, too large, empty,
// full, a wrap-around, a refused call. A wrong answer is told with the sentence that it breaks.
public final class SpanHiderEdges {
    private static final int LEAST = Integer.MIN_VALUE;
    private static final int GREATEST = Integer.MAX_VALUE;
    private static final int NO_DEPTH = 1000000;
    private static final int COLUMNS = 24;
    private static final int ROWS = 12;
    private static final int[] STAIRS = {0, 0, 6, 0, 6, 2, 4, 2, 4, 4, 2, 4, 2, 6, 0, 6};

    private static String sentence = "";
    private static int wrong = 0;

    private interface Call {
        int on(SpanHider h);
    }

    private interface CallOfOne {
        int on(SpanHider h, int number);
    }

    private interface CallOfTwo {
        int on(SpanHider h, int first, int second);
    }

    public static void main(String[] args) {
        whatItIs();
        termsOfPolygons();
        termsOfCovering();
        termsOfDepthAndSpans();
        termsOfCalls();
        promisesOfTheDraft();
        promisesOfChanges();
        promisesOfPixels();
        promisesOfSpans();
        promisesOfCounts();
        System.out.println(wrong == 0 ? "all answers are as due" : wrong + " answers are not as due");
        if (wrong != 0) {
            System.exit(1);
        }
    }

    private static void whatItIs() {
        test("What it is: An object is used for at most 512 calls", SpanHiderEdges::callsUpTo512);
    }

    private static void termsOfPolygons() {
        test("Terms: A polygon has 3 to 8 POINTS", SpanHiderEdges::leastAndMostPoints);
        test("Terms: 0 <= x <= 24 and 0 <= y <= 12", SpanHiderEdges::pointsOnTheBorder);
        test("Terms: edges lead from every point to the next one and from the last to the first",
            SpanHiderEdges::edgesCloseTheRound);
        test("Terms: At most 6 polygons are drawn, numbered 0, 1, 2, .. in their order", SpanHiderEdges::sixInOrder);
        test("Terms: a list of points, empty at first", SpanHiderEdges::listAtFirst);
        test("Terms: a plane, (0, 0, 0) at first", SpanHiderEdges::planeAtFirst);
    }

    private static void termsOfCovering() {
        test("Terms: a column i (0 .. 23) and a row j (0 .. 11)", SpanHiderEdges::everyPixelOfTheWindow);
        test("Terms: px = 2*i + 1 and py = 2*j + 1; a point (x, y) lies at (2*x, 2*y)",
            SpanHiderEdges::boxesOfOnePixel);
        test("Terms: px = 2*i + 1 (an edge on the centre, and beside it)", SpanHiderEdges::slantsBesideTheCentre);
        test("Terms: py is strictly between 2*y1 and 2*y2", SpanHiderEdges::rowsOfAnEdge);
        test("Terms: py is strictly between 2*y1 and 2*y2 (of a level edge, never)", SpanHiderEdges::levelEdges);
        test("Terms: an exact fraction (by a twelfth)", SpanHiderEdges::fractionsOfATwelfth);
        test("Terms: an exact fraction (every edge from row 0)", SpanHiderEdges::fractionsOfEveryEdge);
        test("Terms: X <= px (a left edge on the centre)", SpanHiderEdges::leftEdgeOnTheCentre);
        test("Terms: X <= px (a right edge on the centre)", SpanHiderEdges::rightEdgeOnTheCentre);
        test("Terms: the number of its edges .. is odd", SpanHiderEdges::noneToEightCrossings);
        test("Terms: Points may repeat", SpanHiderEdges::pointsMayRepeat);
        test("Terms: edges may meet", SpanHiderEdges::edgesMayMeet);
    }

    private static void termsOfDepthAndSpans() {
        test("Terms: The DEPTH of a polygon at a pixel is a * px + b * py + c", SpanHiderEdges::depthsAtTheCorners);
        test("Terms: among the drawn polygons that cover it", SpanHiderEdges::onlyCoveringOnesOwn);
        test("Terms: the one with the least depth there", SpanHiderEdges::leastDepthOwns);
        test("Terms: among several with that depth the one with the least number", SpanHiderEdges::leastNumberOwns);
        test("Terms: a greatest stretch of neighbouring columns", SpanHiderEdges::spansAreGreatest);
        test("Terms: or all have none", SpanHiderEdges::spansOfNone);
        test("Terms: numbered 0, 1, 2, .. from the left", SpanHiderEdges::everyColumnASpan);
        test("Terms: there is always at least one", SpanHiderEdges::alwaysOneSpan);
    }

    private static void termsOfCalls() {
        test("Terms: No question changes anything", SpanHiderEdges::questionsChangeNothing);
        test("Terms: A refused call changes nothing (of the draft)", SpanHiderEdges::refusedDraftCalls);
        test("Terms: A refused call changes nothing (draw)", SpanHiderEdges::refusedDraws);
        test("Terms: A refused call changes nothing (remove, shift, tilt)", SpanHiderEdges::refusedChanges);
        test("Terms: A refused call changes nothing (questions)", SpanHiderEdges::refusedQuestions);
        test("Terms: the tests are made in the order named (point)", SpanHiderEdges::orderOfPoint);
        test("Terms: the tests are made in the order named (plane)", SpanHiderEdges::orderOfPlane);
        test("Terms: the tests are made in the order named (draw)", SpanHiderEdges::orderOfDraw);
        test("Terms: the tests are made in the order named (shift)", SpanHiderEdges::orderOfShift);
        test("Terms: the tests are made in the order named (covers)", SpanHiderEdges::orderOfCovers);
        test("Terms: the tests are made in the order named (spanStart)", SpanHiderEdges::orderOfSpanStart);
        test("Terms: the tests are made in the order named (spanOwner)", SpanHiderEdges::orderOfSpanOwner);
    }

    private static void promisesOfTheDraft() {
        test("1: Nothing is drawn at first", SpanHiderEdges::nothingAtFirst);
        test("2: Puts a point at the end of the draft's list", SpanHiderEdges::pointsInTheirOrder);
        test("2: -1 if x is not in 0 .. 24", SpanHiderEdges::pointXOutside);
        test("2: -1 if .. y not in 0 .. 12", SpanHiderEdges::pointYOutside);
        test("2: -2 if the list has 8 points", SpanHiderEdges::pointIntoAFullList);
        test("2: otherwise answers how many it has now", SpanHiderEdges::pointAnswersTheCount);
        test("3: The draft's list becomes empty", SpanHiderEdges::clearEmpties);
        test("3: answers how many points it had", SpanHiderEdges::clearAnswersTheCount);
        test("4: Sets the draft's plane", SpanHiderEdges::planeIsSet);
        test("4: -1 if a or b is not in -30 .. 30 (a)", SpanHiderEdges::planeAOutside);
        test("4: -1 if a or b is not in -30 .. 30 (b)", SpanHiderEdges::planeBOutside);
        test("4: -2 if c is not in -3000 .. 3000", SpanHiderEdges::planeCOutside);
        test("4: otherwise 0", SpanHiderEdges::planeAnswersZero);
        test("5: Draws a copy of the draft", SpanHiderEdges::drawnCopyStaysApart);
        test("5: (which stays as it is)", SpanHiderEdges::draftStaysAfterDraw);
        test("5: -1 if the draft has fewer than 3 points", SpanHiderEdges::drawTooFewPoints);
        test("5: -2 if 6 polygons are drawn", SpanHiderEdges::drawTooManyPolygons);
        test("5: otherwise answers the polygon's number", SpanHiderEdges::drawAnswersTheNumber);
    }

    private static void promisesOfChanges() {
        test("6: Takes a polygon out; later ones get numbers less by one", SpanHiderEdges::removeOfEachOfSix);
        test("6: -1 if there is no such polygon",
            () -> noSuchPolygon("remove", (h, polygon) -> h.remove(polygon)));
        test("6: otherwise answers how many are left", SpanHiderEdges::removeAnswersTheRest);
        test("7: Moves all points of a polygon by (dx, dy)", SpanHiderEdges::shiftMovesAllPoints);
        test("7: -1 if there is no such polygon",
            () -> noSuchPolygon("shift", (h, polygon) -> h.shift(polygon, 0, 0)));
        test("7: -2 if a point would leave 0 .. 24", SpanHiderEdges::shiftOnePointOutSideways);
        test("7: -2 if a point would leave .. 0 .. 12", SpanHiderEdges::shiftOnePointOutUpOrDown);
        test("7: -2 if a point would leave (only its own points)", SpanHiderEdges::shiftForgetsOldPoints);
        test("7: otherwise 0", SpanHiderEdges::shiftAcrossTheWindow);
        test("7: dx and dy may be any ints (dx)", SpanHiderEdges::shiftByAnyDx);
        test("7: dx and dy may be any ints (dy)", SpanHiderEdges::shiftByAnyDy);
        test("7: The plane stays as it is", SpanHiderEdges::shiftKeepsThePlane);
        test("8: Gives a polygon the draft's plane", SpanHiderEdges::tiltOfOneOfSix);
        test("8: -1 if there is no such polygon",
            () -> noSuchPolygon("tilt", (h, polygon) -> h.tilt(polygon)));
        test("8: otherwise 0", SpanHiderEdges::tiltAnswersZero);
        test("9: How many polygons are drawn", SpanHiderEdges::drawnFromNoneToSix);
    }

    private static void promisesOfPixels() {
        test("10: -1 if i or j is out of range (i)",
            () -> columnRange("owner", (h, i, j) -> h.owner(i, j), 0, -1));
        test("10: -1 if i or j is out of range (j)",
            () -> rowRange("owner", (h, i, j) -> h.owner(i, j), 0, -1));
        test("10: -2 if it has none", SpanHiderEdges::ownerOfNone);
        test("11: The depth of the owner at the pixel", SpanHiderEdges::depthIsTheOwners);
        test("11: 1000000 if i or j is out of range (i)",
            () -> columnRange("depthAt", (h, i, j) -> h.depthAt(i, j), 7, NO_DEPTH));
        test("11: 1000000 if i or j is out of range (j)",
            () -> rowRange("depthAt", (h, i, j) -> h.depthAt(i, j), 7, NO_DEPTH));
        test("11: or the pixel has no owner", SpanHiderEdges::depthOfNone);
        test("12: 1 if the polygon covers the pixel, otherwise 0", SpanHiderEdges::coversBehindAnother);
        test("12: -1 if there is no such polygon",
            () -> noSuchPolygon("covers", (h, polygon) -> h.covers(polygon, 0, 0)));
        test("12: -2 if i or j is out of range (i)",
            () -> columnRange("covers", (h, i, j) -> h.covers(0, i, j), 1, -2));
        test("12: -2 if i or j is out of range (j)",
            () -> rowRange("covers", (h, i, j) -> h.covers(0, i, j), 1, -2));
    }

    private static void promisesOfSpans() {
        test("13: How many spans row j has", SpanHiderEdges::spansFromOneToTwentyFour);
        test("13: -1 if j is out of range",
            () -> rowRangeOfSpans("spans", (h, j) -> h.spans(j), 24));
        test("14: The first column of a span", SpanHiderEdges::spanStartFirstAndLast);
        test("14: -1 if j is out of range",
            () -> rowRangeOfSpans("spanStart", (h, j) -> h.spanStart(j, 1), 1));
        test("14: -2 if there is no such span",
            () -> noSuchSpan("spanStart", (h, j, span) -> h.spanStart(j, span)));
        test("15: The owner of the pixels of a span", SpanHiderEdges::spanOwnerFirstAndLast);
        test("15: -1 if j is out of range",
            () -> rowRangeOfSpans("spanOwner", (h, j) -> h.spanOwner(j, 4), 1));
        test("15: -2 if there is no such span",
            () -> noSuchSpan("spanOwner", (h, j, span) -> h.spanOwner(j, span)));
        test("15: -3 if they have none", SpanHiderEdges::spanOwnerOfNone);
    }

    private static void promisesOfCounts() {
        test("16: How many pixels the polygon owns", SpanHiderEdges::ownedFromNoneToAll);
        test("16: -1 if there is no such polygon",
            () -> noSuchPolygon("owned", (h, polygon) -> h.owned(polygon)));
        test("17: How many pixels the polygon covers", SpanHiderEdges::coveredFromNoneToAll);
        test("17: -1 if there is no such polygon",
            () -> noSuchPolygon("covered", (h, polygon) -> h.covered(polygon)));
        test("18: How many pixels have an owner", SpanHiderEdges::litFromNoneToAll);
        test("19: pairs of neighbouring pixels of the same row", SpanHiderEdges::seamsWithinRowsAlone);
        test("19: both have owners", SpanHiderEdges::seamsNeedTwoOwners);
        test("19: and different ones", SpanHiderEdges::seamsFromNoneToMost);
    }

    private static void test(String quoted, Runnable body) {
        sentence = quoted;
        try {
            body.run();
        } catch (RuntimeException thrown) {
            fail("a call has thrown " + thrown);
        }
    }

    private static void fail(String what) {
        wrong++;
        System.out.println("\"" + sentence + "\": " + what);
    }

    private static void due(String call, int got, int want) {
        if (got != want) {
            fail(call + " answered " + got + ", due is " + want);
        }
    }

    // Just outside, far outside, and where a narrower number, or one that is multiplied, would wrap to the inside.
    private static List<Integer> outside(int least, int greatest) {
        List<Integer> numbers = new ArrayList<>(List.of(
            least - 1, greatest + 1, least - 100, greatest + 100, least - 256, greatest + 256, least - 65536,
            greatest + 65536, 1 << 16, 1 << 26, 1 << 27, 1 << 28, 1 << 29, 1 << 30, -(1 << 16), -(1 << 26), -(1 << 29),
            -(1 << 30)));
        for (int k = 0; k <= 24; k++) {
            numbers.add(LEAST + k);
            numbers.add(GREATEST - k);
        }
        return numbers;
    }

    private static void noSuchPolygon(String name, CallOfOne call) {
        for (int count = 0; count <= 6; count++) {
            SpanHider h = pixelRow(count);
            for (int polygon : outside(0, count - 1)) {
                due(name + " of polygon " + polygon + " with " + count + " drawn", call.on(h, polygon), -1);
            }
        }
        SpanHider h = pixelRow(6);
        h.remove(2);
        due(name + " of polygon 5, whose number has become 4", call.on(h, 5), -1);
    }

    private static void columnRange(String name, CallOfTwo call, int inside, int refused) {
        SpanHider h = window();
        for (int i : outside(0, 23)) {
            due(name + " of (" + i + ", 0)", call.on(h, i, 0), refused);
            due(name + " of (" + i + ", 11)", call.on(h, i, 11), refused);
        }
        due(name + " of (0, 5)", call.on(h, 0, 5), inside);
        due(name + " of (23, 5)", call.on(h, 23, 5), inside);
    }

    private static void rowRange(String name, CallOfTwo call, int inside, int refused) {
        SpanHider h = window();
        for (int j : outside(0, 11)) {
            due(name + " of (0, " + j + ")", call.on(h, 0, j), refused);
            due(name + " of (23, " + j + ")", call.on(h, 23, j), refused);
        }
        // What a column may be, a row may not.
        due(name + " of (5, 23)", call.on(h, 5, 23), refused);
        due(name + " of (5, 0)", call.on(h, 5, 0), inside);
        due(name + " of (5, 11)", call.on(h, 5, 11), inside);
    }

    private static void rowRangeOfSpans(String name, CallOfOne call, int inside) {
        SpanHider h = combs();
        for (int j : outside(0, 11)) {
            due(name + " of row " + j, call.on(h, j), -1);
        }
        due(name + " of row 23", call.on(h, 23), -1);
        due(name + " of row 0", call.on(h, 0), inside);
        due(name + " of row 11", call.on(h, 11), inside);
    }

    private static void noSuchSpan(String name, CallOfTwo call) {
        noSpanBeyond(new SpanHider(), 1, name, call);
        noSpanBeyond(upright(), 3, name, call);
        noSpanBeyond(combs(), 24, name, call);
    }

    private static void noSpanBeyond(SpanHider h, int count, String name, CallOfTwo call) {
        for (int span : outside(0, count - 1)) {
            due(name + " of span " + span + " in row 0 of " + count, call.on(h, 0, span), -2);
            due(name + " of span " + span + " in row 11 of " + count, call.on(h, 11, span), -2);
        }
    }

    // The draft becomes the points x, y, x, y, ..
    private static void points(SpanHider h, int... places) {
        h.clear();
        for (int k = 0; k < places.length; k += 2) {
            h.point(places[k], places[k + 1]);
        }
    }

    private static int drawPoints(SpanHider h, int... places) {
        points(h, places);
        return h.draw();
    }

    private static int box(SpanHider h, int left, int top, int right, int bottom, int c) {
        h.plane(0, 0, c);
        return drawPoints(h, left, top, right, top, right, bottom, left, bottom);
    }

    private static SpanHider window() {
        SpanHider h = new SpanHider();
        box(h, 0, 0, COLUMNS, ROWS, 7);
        return h;
    }

    // Polygon k is the pixel (k, 0), with depth k.
    private static SpanHider pixelRow(int polygons) {
        SpanHider h = new SpanHider();
        for (int k = 0; k < polygons; k++) {
            box(h, k, 0, k + 1, 1, k);
        }
        return h;
    }

    // Columns 8 .. 15 in every row, with none on both sides.
    private static SpanHider upright() {
        SpanHider h = new SpanHider();
        box(h, 8, 0, 16, 12, 0);
        return h;
    }

    // Six combs of two teeth: columns 0, 2, 4, .. are owned in every row, the others are not.
    private static SpanHider combs() {
        SpanHider h = new SpanHider();
        for (int x = 0; x < COLUMNS; x += 4) {
            drawPoints(h, x, 0, x + 1, 0, x + 1, 12, x + 2, 12, x + 2, 0, x + 3, 0, x + 3, 12, x, 12);
        }
        return h;
    }

    private static boolean isOnStairs(int i, int j) {
        return i >= 0 && j >= 0 && j < 6 && i < 6 - j / 2 * 2;
    }

    // What it is

    private static void callsUpTo512() {
        SpanHider drawing = new SpanHider();
        // A box takes seven calls.
        box(drawing, 0, 0, 2, 2, 3);
        for (int call = 8; call < 510; call += 2) {
            due("draw(), call " + call, drawing.draw(), 1);
            due("remove(0), call " + (call + 1), drawing.remove(0), 1);
        }
        due("covered(0), call 510", drawing.covered(0), 4);
        due("depthAt(1, 1), call 511", drawing.depthAt(1, 1), 3);
        due("draw(), call 512", drawing.draw(), 1);
        SpanHider pointing = new SpanHider();
        for (int call = 1; call <= 511; call++) {
            due("point(3, 4), call " + call, pointing.point(3, 4), call <= 8 ? call : -2);
        }
        due("clear(), call 512", pointing.clear(), 8);
        SpanHider asked = new SpanHider();
        for (int call = 1; call <= 512; call++) {
            due("lit(), call " + call, asked.lit(), 0);
        }
    }

    // Terms: polygons

    private static void leastAndMostPoints() {
        SpanHider h = new SpanHider();
        due("draw() of three points", drawPoints(h, 0, 0, 4, 0, 0, 4), 0);
        due("covered(0)", h.covered(0), 3 + 2 + 1);
        due("draw() of eight points", drawPoints(h, STAIRS), 1);
        for (int j = 0; j < 7; j++) {
            for (int i = 0; i < 8; i++) {
                due("covers(1, " + i + ", " + j + ")", h.covers(1, i, j), isOnStairs(i, j) ? 1 : 0);
            }
        }
    }

    private static void pointsOnTheBorder() {
        SpanHider h = new SpanHider();
        due("point(0, 0)", h.point(0, 0), 1);
        due("point(24, 0)", h.point(24, 0), 2);
        due("point(24, 12)", h.point(24, 12), 3);
        due("point(0, 12)", h.point(0, 12), 4);
        due("draw()", h.draw(), 0);
        due("covered(0)", h.covered(0), 288);
        due("shift(0, 0, 0)", h.shift(0, 0, 0), 0);
    }

    private static void edgesCloseTheRound() {
        int[] boxX = {2, 6, 6, 2};
        int[] boxY = {1, 1, 4, 4};
        for (int first = 0; first < 4; first++) {
            for (int step = 1; step <= 3; step += 2) {
                SpanHider h = new SpanHider();
                for (int k = 0; k < 4; k++) {
                    h.point(boxX[(first + k * step) % 4], boxY[(first + k * step) % 4]);
                }
                h.draw();
                String from = " of the box from corner " + first + " by " + step;
                due("covered(0)" + from, h.covered(0), 12);
                due("covers(0, 1, 1)" + from, h.covers(0, 1, 1), 0);
                due("covers(0, 2, 1)" + from, h.covers(0, 2, 1), 1);
                due("covers(0, 5, 3)" + from, h.covers(0, 5, 3), 1);
                due("covers(0, 6, 3)" + from, h.covers(0, 6, 3), 0);
            }
        }
    }

    private static void sixInOrder() {
        SpanHider h = new SpanHider();
        for (int k = 0; k < 6; k++) {
            due("draw()", box(h, k, 0, k + 1, 1, 0), k);
        }
        due("draw() of a seventh", box(h, 6, 0, 7, 1, 0), -2);
        due("drawn()", h.drawn(), 6);
        for (int k = 0; k < 6; k++) {
            due("owner(" + k + ", 0)", h.owner(k, 0), k);
        }
        due("owner(6, 0)", h.owner(6, 0), -2);
    }

    private static void listAtFirst() {
        SpanHider h = new SpanHider();
        due("draw()", h.draw(), -1);
        due("clear()", h.clear(), 0);
        due("point(9, 9)", new SpanHider().point(9, 9), 1);
    }

    private static void planeAtFirst() {
        SpanHider h = new SpanHider();
        drawPoints(h, 0, 0, 24, 0, 24, 12, 0, 12);
        due("depthAt(0, 0)", h.depthAt(0, 0), 0);
        due("depthAt(23, 0)", h.depthAt(23, 0), 0);
        due("depthAt(0, 11)", h.depthAt(0, 11), 0);
        due("depthAt(23, 11)", h.depthAt(23, 11), 0);
    }

    // Terms: covering

    private static void everyPixelOfTheWindow() {
        SpanHider h = window();
        for (int j = 0; j < ROWS; j++) {
            for (int i = 0; i < COLUMNS; i++) {
                due("owner(" + i + ", " + j + ")", h.owner(i, j), 0);
            }
        }
        due("lit()", h.lit(), COLUMNS * ROWS);
    }

    private static void boxesOfOnePixel() {
        for (int j = 0; j < ROWS; j++) {
            for (int i = 0; i < COLUMNS; i++) {
                SpanHider h = new SpanHider();
                box(h, i, j, i + 1, j + 1, 0);
                due("covers(0, " + i + ", " + j + ")", h.covers(0, i, j), 1);
                due("covered(0) of one pixel", h.covered(0), 1);
            }
        }
    }

    // The edges cross the row at X = 9 and X = 10: upright ones can't tell the centre from the pixel's left side.
    private static void slantsBesideTheCentre() {
        for (int j = 0; j < ROWS; j++) {
            SpanHider h = new SpanHider();
            drawPoints(h, 4, j, 24, j, 24, j + 1, 5, j + 1);
            due("covers(0, 3, " + j + "), X = px + 2", h.covers(0, 3, j), 0);
            due("covers(0, 4, " + j + "), X = px", h.covers(0, 4, j), 1);
            drawPoints(h, 4, j, 24, j, 24, j + 1, 6, j + 1);
            due("covers(1, 4, " + j + "), X = px + 1", h.covers(1, 4, j), 0);
            due("covers(1, 5, " + j + "), X = px - 1", h.covers(1, 5, j), 1);
        }
    }

    private static void rowsOfAnEdge() {
        for (int top = 0; top < ROWS; top++) {
            for (int bottom = top + 1; bottom <= ROWS; bottom++) {
                SpanHider h = new SpanHider();
                drawPoints(h, 5, top, 5, bottom, 7, bottom, 7, top);
                drawPoints(h, 5, bottom, 5, top, 7, top, 7, bottom);
                for (int j = 0; j < ROWS; j++) {
                    int want = top <= j && j < bottom ? 1 : 0;
                    String edge = " of an edge between " + top + " and " + bottom;
                    due("covers(0, 5, " + j + ")" + edge, h.covers(0, 5, j), want);
                    due("covers(1, 5, " + j + ")" + edge, h.covers(1, 5, j), want);
                }
            }
        }
    }

    private static void levelEdges() {
        for (int y = 0; y <= ROWS; y++) {
            SpanHider h = new SpanHider();
            drawPoints(h, 0, y, 24, y, 12, y);
            due("covered(0) of a level line at " + y, h.covered(0), 0);
        }
        SpanHider step = new SpanHider();
        drawPoints(step, 0, 0, 4, 0, 4, 3, 20, 3, 20, 6, 0, 6);
        due("covers(0, 3, 2)", step.covers(0, 3, 2), 1);
        due("covers(0, 4, 2)", step.covers(0, 4, 2), 0);
        due("covers(0, 4, 3)", step.covers(0, 4, 3), 1);
        due("covers(0, 20, 3)", step.covers(0, 20, 3), 0);
        due("covered(0)", step.covered(0), 3 * 4 + 3 * 20);
    }

    // Polygon 0's left edge has X = py / 12, polygon 1's X = 2 - py / 12: by a twelfth they miss column 0's centre.
    private static void fractionsOfATwelfth() {
        SpanHider h = new SpanHider();
        drawPoints(h, 0, 0, 24, 0, 24, 12, 1, 12);
        drawPoints(h, 1, 0, 24, 0, 24, 12, 0, 12);
        for (int j = 0; j < ROWS; j++) {
            due("covers(0, 0, " + j + ")", h.covers(0, 0, j), j <= 5 ? 1 : 0);
            due("covers(1, 0, " + j + ")", h.covers(1, 0, j), j <= 5 ? 0 : 1);
            due("covers(0, 1, " + j + ")", h.covers(0, 1, j), 1);
            due("covers(1, 1, " + j + ")", h.covers(1, 1, j), 1);
        }
    }

    private static void fractionsOfEveryEdge() {
        for (int height = 1; height <= ROWS; height++) {
            for (int x1 = 0; x1 <= COLUMNS; x1++) {
                for (int x2 = 0; x2 <= COLUMNS; x2++) {
                    fractionsOfAnEdge(x1, x2, height);
                }
            }
        }
    }

    private static void fractionsOfAnEdge(int x1, int x2, int height) {
        // Every height from 1 to 12 divides it, so that X times it is a whole number.
        int unit = 27720;
        String edge = " with an edge of (" + x1 + ", 0) and (" + x2 + ", " + height + ")";
        SpanHider down = new SpanHider();
        drawPoints(down, x1, 0, x2, height, 24, height, 24, 0);
        SpanHider up = new SpanHider();
        drawPoints(up, 24, 0, 24, height, x2, height, x1, 0);
        for (int j = 0; j < height; j++) {
            int x = 2 * x1 * unit + (2 * j + 1) * (x2 - x1) * (unit / height);
            for (int i = 0; i < COLUMNS; i++) {
                int want = x <= (2 * i + 1) * unit ? 1 : 0;
                String call = "covers(0, " + i + ", " + j + ")" + edge;
                due(call + " downwards", down.covers(0, i, j), want);
                due(call + " upwards", up.covers(0, i, j), want);
            }
        }
    }

    // The edge of (0, 0) and (12, 12) has X = py: it goes through the centres of the pixels (j, j).
    private static void leftEdgeOnTheCentre() {
        SpanHider h = new SpanHider();
        drawPoints(h, 0, 0, 12, 12, 24, 12, 24, 0);
        drawPoints(h, 12, 12, 0, 0, 24, 0, 24, 12);
        for (int j = 0; j < ROWS; j++) {
            due("covers(0, " + j + ", " + j + ")", h.covers(0, j, j), 1);
            due("covers(1, " + j + ", " + j + ")", h.covers(1, j, j), 1);
        }
        drawPoints(h, 23, 0, 24, 0, 24, 1);
        due("covers(2, 23, 0), X = px = 47", h.covers(2, 23, 0), 1);
    }

    private static void rightEdgeOnTheCentre() {
        SpanHider h = new SpanHider();
        drawPoints(h, 0, 0, 12, 12, 0, 12);
        drawPoints(h, 12, 12, 0, 0, 0, 12);
        for (int j = 0; j < ROWS; j++) {
            due("covers(0, " + j + ", " + j + ")", h.covers(0, j, j), 0);
            due("covers(1, " + j + ", " + j + ")", h.covers(1, j, j), 0);
        }
        due("covers(0, 10, 11)", h.covers(0, 10, 11), 1);
        drawPoints(h, 22, 0, 23, 0, 24, 1, 22, 1);
        due("covers(2, 23, 0), X = px = 47", h.covers(2, 23, 0), 0);
        due("covers(2, 22, 0), X = 47 > px", h.covers(2, 22, 0), 1);
    }

    // In row 5 all eight edges cross, at X = 4, 10.5, 16, 20.5, 22.5, 28, 34.5 and 40.
    private static void noneToEightCrossings() {
        SpanHider h = new SpanHider();
        drawPoints(h, 2, 0, 2, 12, 8, 0, 8, 12, 14, 0, 14, 12, 20, 0, 20, 12);
        int[] crossings = {0, 0, 1, 1, 1, 2, 2, 2, 3, 3, 4, 5, 5, 5, 6, 6, 6, 7, 7, 7, 8, 8, 8, 8};
        for (int i = 0; i < COLUMNS; i++) {
            due("covers(0, " + i + ", 5), " + crossings[i] + " crossings", h.covers(0, i, 5), crossings[i] % 2);
        }
    }

    private static void pointsMayRepeat() {
        SpanHider h = new SpanHider();
        due("draw() of one place", drawPoints(h, 5, 5, 5, 5, 5, 5), 0);
        due("covered(0) of one place", h.covered(0), 0);
        due("draw() of two places", drawPoints(h, 0, 0, 24, 12, 0, 0), 1);
        due("covered(1) of two places", h.covered(1), 0);
        due("draw() of a box", drawPoints(h, 1, 1, 1, 1, 4, 1, 4, 1, 4, 4, 4, 4, 1, 4, 1, 1), 2);
        due("covered(2) of a box", h.covered(2), 9);
    }

    private static void edgesMayMeet() {
        SpanHider h = new SpanHider();
        due("draw() of a box twice round", drawPoints(h, 8, 0, 12, 0, 12, 4, 8, 4, 8, 0, 12, 0, 12, 4, 8, 4), 0);
        due("covered(0) of a box twice round", h.covered(0), 0);
        // The edges meet in the middle of rows 1 and 2; cut by X = py and X = 8 - py.
        due("draw() of a bow", drawPoints(h, 0, 0, 4, 4, 4, 0, 0, 4), 1);
        int[] rows = {0b0001, 0b1011, 0b1011, 0b0001};
        for (int j = 0; j < 4; j++) {
            for (int i = 0; i < 4; i++) {
                due("covers(1, " + i + ", " + j + ") of a bow", h.covers(1, i, j), rows[j] >> (3 - i) & 1);
            }
        }
        due("draw() of boxes that share a corner", drawPoints(h, 0, 0, 2, 0, 2, 4, 4, 4, 4, 2, 0, 2), 2);
        due("covered(2) of boxes that share a corner", h.covered(2), 4 + 4);
    }

    // Terms: depth and spans

    private static void depthsAtTheCorners() {
        SpanHider h = window();
        int[] signs = {-1, 1};
        for (int a : signs) {
            for (int b : signs) {
                for (int c : signs) {
                    h.plane(30 * a, 30 * b, 3000 * c);
                    h.tilt(0);
                    due("depthAt(0, 0)", h.depthAt(0, 0), 30 * a + 30 * b + 3000 * c);
                    due("depthAt(23, 0)", h.depthAt(23, 0), 1410 * a + 30 * b + 3000 * c);
                    due("depthAt(0, 11)", h.depthAt(0, 11), 30 * a + 690 * b + 3000 * c);
                    due("depthAt(23, 11)", h.depthAt(23, 11), 1410 * a + 690 * b + 3000 * c);
                }
            }
        }
    }

    private static void onlyCoveringOnesOwn() {
        SpanHider h = new SpanHider();
        box(h, 0, 0, 2, 2, -3000);
        box(h, 0, 0, 24, 12, 3000);
        box(h, 22, 10, 24, 12, -3000);
        due("owner(1, 1)", h.owner(1, 1), 0);
        due("owner(2, 2)", h.owner(2, 2), 1);
        due("owner(21, 9)", h.owner(21, 9), 1);
        due("owner(22, 10)", h.owner(22, 10), 2);
        h.remove(1);
        due("owner(2, 2) after remove(1)", h.owner(2, 2), -2);
        h.remove(1);
        due("owner(22, 10) after remove(1) again", h.owner(22, 10), -2);
    }

    private static void leastDepthOwns() {
        int[] depths = {3000, 1, 0, -1, -2999, -3000};
        SpanHider falling = new SpanHider();
        SpanHider rising = new SpanHider();
        for (int k = 0; k < 6; k++) {
            box(falling, 0, 0, 24, 12, depths[k]);
            due("owner(23, 11), each nearer", falling.owner(23, 11), k);
            box(rising, 0, 0, 24, 12, depths[5 - k]);
            due("owner(23, 11), each farther", rising.owner(23, 11), 0);
        }
        // The depths px + py and 24 part between the pixels (11, 0), with 24, and (12, 0), with 26.
        SpanHider crossed = new SpanHider();
        box(crossed, 0, 0, 24, 12, 24);
        crossed.plane(1, 1, 0);
        crossed.draw();
        due("owner(10, 0), there 22 against 24", crossed.owner(10, 0), 1);
        due("owner(12, 0), there 26 against 24", crossed.owner(12, 0), 0);
    }

    private static void leastNumberOwns() {
        SpanHider h = new SpanHider();
        for (int k = 0; k < 6; k++) {
            box(h, 0, 0, 24, 12, k == 0 ? 6 : 5);
        }
        due("owner(0, 0) of five with the same depth", h.owner(0, 0), 1);
        h.tilt(0);
        due("owner(0, 0) of six with the same depth", h.owner(0, 0), 0);
        due("owned(0)", h.owned(0), 288);
        due("owned(5)", h.owned(5), 0);
        h.shift(0, 0, 0);
        due("owner(0, 0) after a shift", h.owner(0, 0), 0);
        // px + py is 24 at (11, 0) and (0, 11) and on the line between them alone.
        h.plane(1, 1, -19);
        h.tilt(5);
        due("owner(11, 0), 5 against 5", h.owner(11, 0), 0);
        due("owner(10, 0), 3 against 5", h.owner(10, 0), 5);
        due("owner(0, 11), 5 against 5", h.owner(0, 11), 0);
    }

    private static void spansAreGreatest() {
        SpanHider h = new SpanHider();
        box(h, 0, 0, 24, 1, 5);
        due("spans(0) of one owner", h.spans(0), 1);
        // Another owner with the same depth is another span; the same owner on both sides is two.
        box(h, 8, 0, 16, 1, 4);
        due("spans(0) of one between the other", h.spans(0), 3);
        due("spanStart(0, 1)", h.spanStart(0, 1), 8);
        due("spanStart(0, 2)", h.spanStart(0, 2), 16);
        due("spanOwner(0, 0)", h.spanOwner(0, 0), 0);
        due("spanOwner(0, 2)", h.spanOwner(0, 2), 0);
        // A hidden polygon divides nothing.
        box(h, 2, 0, 4, 1, 6);
        due("spans(0) with a hidden one", h.spans(0), 3);
        // Two owners side by side, with none on both sides of them.
        box(h, 4, 1, 8, 2, 9);
        box(h, 8, 1, 12, 2, 9);
        due("spans(1)", h.spans(1), 4);
        due("spanStart(1, 2)", h.spanStart(1, 2), 8);
        due("spanStart(1, 3)", h.spanStart(1, 3), 12);
    }

    private static void spansOfNone() {
        SpanHider h = upright();
        due("spans(0) with none on both sides", h.spans(0), 3);
        due("spanStart(0, 1)", h.spanStart(0, 1), 8);
        due("spanStart(0, 2)", h.spanStart(0, 2), 16);
        h.shift(0, -8, 0);
        due("spans(0) with none on the right", h.spans(0), 2);
        due("spanOwner(0, 1)", h.spanOwner(0, 1), -3);
        h.shift(0, 16, 0);
        due("spans(0) with none on the left", h.spans(0), 2);
        due("spanOwner(0, 0)", h.spanOwner(0, 0), -3);
        h.remove(0);
        due("spans(0) of none at all", h.spans(0), 1);
    }

    private static void everyColumnASpan() {
        SpanHider h = combs();
        for (int span = 0; span < COLUMNS; span++) {
            due("spanStart(0, " + span + ")", h.spanStart(0, span), span);
            due("spanOwner(11, " + span + ")", h.spanOwner(11, span), span % 2 == 0 ? span / 4 : -3);
        }
    }

    private static void alwaysOneSpan() {
        SpanHider empty = new SpanHider();
        SpanHider full = window();
        for (int j = 0; j < ROWS; j++) {
            due("spans(" + j + ") of no owner", empty.spans(j), 1);
            due("spanStart(" + j + ", 0) of no owner", empty.spanStart(j, 0), 0);
            due("spanOwner(" + j + ", 0) of no owner", empty.spanOwner(j, 0), -3);
            due("spans(" + j + ") of one owner", full.spans(j), 1);
            due("spanStart(" + j + ", 0) of one owner", full.spanStart(j, 0), 0);
            due("spanOwner(" + j + ", 0) of one owner", full.spanOwner(j, 0), 0);
        }
    }

    // Terms: calls

    // Some polygons that overlap, and a draft that differs from each of them.
    private static SpanHider scene(int polygons, int draftPoints) {
        SpanHider h = new SpanHider();
        for (int k = 0; k < polygons; k++) {
            h.plane(k - 2, 3 - k, 10 * k);
            drawPoints(h, 3 * k, k, 3 * k + 8, k, 3 * k + 8, k + 6, 3 * k + 4, k + 3, 3 * k, k + 6);
        }
        h.plane(-5, 7, 300);
        h.clear();
        for (int k = 0; k < draftPoints; k++) {
            h.point(2 + STAIRS[2 * k], 3 + STAIRS[2 * k + 1]);
        }
        return h;
    }

    private static void removeAll(SpanHider h) {
        for (int k = 0; k < 6; k++) {
            h.remove(0);
        }
    }

    // Each way of telling the state asks one question alone: a question that changes something would otherwise do so
    // in the object that it is compared with, too.
    private static List<Integer> owners(SpanHider h) {
        List<Integer> told = new ArrayList<>();
        for (int pixel = 0; pixel < COLUMNS * ROWS; pixel++) {
            told.add(h.owner(pixel % COLUMNS, pixel / COLUMNS));
        }
        return told;
    }

    private static List<Integer> depths(SpanHider h) {
        List<Integer> told = new ArrayList<>();
        for (int pixel = 0; pixel < COLUMNS * ROWS; pixel++) {
            told.add(h.depthAt(pixel % COLUMNS, pixel / COLUMNS));
        }
        return told;
    }

    private static List<Integer> sizes(SpanHider h) {
        List<Integer> told = new ArrayList<>();
        for (int polygon = 0; polygon < 6; polygon++) {
            told.add(h.covered(polygon));
        }
        return told;
    }

    // Takes the polygons out, which tells how many there were, and draws the draft, with the points it may need.
    // No call of these is refused, since a refused one that changes something would do so in both objects.
    private static List<Integer> drawnDraft(SpanHider h, int polygons, int draftPoints) {
        List<Integer> told = new ArrayList<>();
        for (int k = 0; k < polygons; k++) {
            told.add(h.remove(0));
        }
        for (int k = draftPoints; k < 3; k++) {
            told.add(h.point(20, 5 * k));
        }
        told.add(h.draw());
        told.addAll(depths(h));
        return told;
    }

    private static List<Integer> stateAfter(int polygons, int draftPoints, Call call) {
        List<SpanHider> alike = new ArrayList<>();
        for (int k = 0; k < 5; k++) {
            SpanHider h = scene(polygons, draftPoints);
            call.on(h);
            alike.add(h);
        }
        List<Integer> told = new ArrayList<>();
        told.addAll(owners(alike.get(0)));
        told.addAll(depths(alike.get(1)));
        told.addAll(sizes(alike.get(2)));
        told.addAll(drawnDraft(alike.get(3), polygons, draftPoints));
        told.add(alike.get(4).clear());
        return told;
    }

    private static void changesNothing(String what, int polygons, int draftPoints, Call call) {
        List<Integer> untouched = stateAfter(polygons, draftPoints, h -> 0);
        if (!stateAfter(polygons, draftPoints, call).equals(untouched)) {
            fail(what + " has changed something");
        }
    }

    private static void refused(String what, int want, int polygons, int draftPoints, Call call) {
        due(what, call.on(scene(polygons, draftPoints)), want);
        changesNothing(what, polygons, draftPoints, call);
    }

    private static void questionsChangeNothing() {
        changesNothing("drawn()", 3, 5, h -> h.drawn());
        changesNothing("owner(4, 2)", 3, 5, h -> h.owner(4, 2));
        changesNothing("owner(23, 11), of none,", 3, 5, h -> h.owner(23, 11));
        changesNothing("depthAt(4, 2)", 3, 5, h -> h.depthAt(4, 2));
        changesNothing("depthAt(23, 11), of none,", 3, 5, h -> h.depthAt(23, 11));
        changesNothing("covers(1, 4, 2)", 3, 5, h -> h.covers(1, 4, 2));
        changesNothing("covers(2, 0, 0), 0 of it,", 3, 5, h -> h.covers(2, 0, 0));
        changesNothing("spans(4)", 3, 5, h -> h.spans(4));
        changesNothing("spanStart(4, 1)", 3, 5, h -> h.spanStart(4, 1));
        changesNothing("spanOwner(4, 1)", 3, 5, h -> h.spanOwner(4, 1));
        changesNothing("owned(1)", 3, 5, h -> h.owned(1));
        changesNothing("covered(2)", 3, 5, h -> h.covered(2));
        changesNothing("lit()", 3, 5, h -> h.lit());
        changesNothing("seams()", 3, 5, h -> h.seams());
    }

    private static void refusedDraftCalls() {
        refused("point(-1, 5)", -1, 3, 5, h -> h.point(-1, 5));
        refused("point(25, 5)", -1, 3, 5, h -> h.point(25, 5));
        refused("point(5, -1)", -1, 3, 5, h -> h.point(5, -1));
        refused("point(5, 13)", -1, 3, 5, h -> h.point(5, 13));
        refused("point(24, 12) into a full list", -2, 3, 8, h -> h.point(24, 12));
        refused("plane(31, 1, 1)", -1, 3, 5, h -> h.plane(31, 1, 1));
        refused("plane(1, -31, 1)", -1, 3, 5, h -> h.plane(1, -31, 1));
        refused("plane(1, 1, 3001)", -2, 3, 5, h -> h.plane(1, 1, 3001));
        refused("plane(1, 1, -3001)", -2, 3, 5, h -> h.plane(1, 1, -3001));
    }

    private static void refusedDraws() {
        for (int points = 0; points < 3; points++) {
            refused("draw() of " + points + " points", -1, 3, points, h -> h.draw());
            refused("draw() of " + points + " points, six drawn", -1, 6, points, h -> h.draw());
        }
        refused("draw() of three points, six drawn", -2, 6, 3, h -> h.draw());
        refused("draw() of eight points, six drawn", -2, 6, 8, h -> h.draw());
    }

    private static void refusedChanges() {
        for (int polygons = 0; polygons <= 5; polygons += 5) {
            int next = polygons;
            refused("remove(-1)", -1, polygons, 5, h -> h.remove(-1));
            refused("remove(" + next + ")", -1, polygons, 5, h -> h.remove(next));
            refused("shift(-1, 1, 1)", -1, polygons, 5, h -> h.shift(-1, 1, 1));
            refused("shift(" + next + ", 1, 1)", -1, polygons, 5, h -> h.shift(next, 1, 1));
            refused("tilt(-1)", -1, polygons, 5, h -> h.tilt(-1));
            refused("tilt(" + next + ")", -1, polygons, 5, h -> h.tilt(next));
        }
        // Polygon 2 reaches from (6, 2) to (14, 8), and its first point may move where a later one may not.
        refused("shift(2, 11, 0)", -2, 6, 5, h -> h.shift(2, 11, 0));
        refused("shift(2, -7, 0)", -2, 6, 5, h -> h.shift(2, -7, 0));
        refused("shift(2, 0, 5)", -2, 6, 5, h -> h.shift(2, 0, 5));
        refused("shift(2, 0, -3)", -2, 6, 5, h -> h.shift(2, 0, -3));
        refused("shift(2, 1, 5)", -2, 6, 5, h -> h.shift(2, 1, 5));
    }

    private static void refusedQuestions() {
        refused("owner(24, 0)", -1, 3, 5, h -> h.owner(24, 0));
        refused("depthAt(0, 12)", NO_DEPTH, 3, 5, h -> h.depthAt(0, 12));
        refused("covers(3, 4, 2)", -1, 3, 5, h -> h.covers(3, 4, 2));
        refused("covers(0, -1, 2)", -2, 3, 5, h -> h.covers(0, -1, 2));
        refused("spans(12)", -1, 3, 5, h -> h.spans(12));
        refused("spanStart(-1, 0)", -1, 3, 5, h -> h.spanStart(-1, 0));
        refused("spanStart(4, 24)", -2, 3, 5, h -> h.spanStart(4, 24));
        refused("spanOwner(-1, 0)", -1, 3, 5, h -> h.spanOwner(-1, 0));
        refused("spanOwner(4, 24)", -2, 3, 5, h -> h.spanOwner(4, 24));
        refused("owned(3)", -1, 3, 5, h -> h.owned(3));
        refused("covered(3)", -1, 3, 5, h -> h.covered(3));
    }

    private static void orderOfPoint() {
        SpanHider h = scene(0, 8);
        due("point(25, 0) into a full list", h.point(25, 0), -1);
        due("point(0, 13) into a full list", h.point(0, 13), -1);
        due("point(-1, -1) into a full list", h.point(-1, -1), -1);
    }

    private static void orderOfPlane() {
        SpanHider h = new SpanHider();
        due("plane(31, 0, 3001)", h.plane(31, 0, 3001), -1);
        due("plane(0, -31, 3001)", h.plane(0, -31, 3001), -1);
        due("plane(-31, 31, -3001)", h.plane(-31, 31, -3001), -1);
    }

    private static void orderOfDraw() {
        due("draw() of two points, six drawn", scene(6, 2).draw(), -1);
        due("draw() of no points, six drawn", scene(6, 0).draw(), -1);
    }

    private static void orderOfShift() {
        SpanHider h = scene(2, 0);
        due("shift(2, 25, 0)", h.shift(2, 25, 0), -1);
        due("shift(-1, 0, 13)", h.shift(-1, 0, 13), -1);
        due("shift(6, LEAST, GREATEST)", h.shift(6, LEAST, GREATEST), -1);
    }

    private static void orderOfCovers() {
        SpanHider h = scene(2, 0);
        due("covers(2, -1, 0)", h.covers(2, -1, 0), -1);
        due("covers(-1, 0, 12)", h.covers(-1, 0, 12), -1);
        due("covers(6, LEAST, GREATEST)", h.covers(6, LEAST, GREATEST), -1);
    }

    private static void orderOfSpanStart() {
        SpanHider h = new SpanHider();
        due("spanStart(12, 1)", h.spanStart(12, 1), -1);
        due("spanStart(-1, -1)", h.spanStart(-1, -1), -1);
        due("spanStart(GREATEST, LEAST)", h.spanStart(GREATEST, LEAST), -1);
    }

    private static void orderOfSpanOwner() {
        SpanHider h = new SpanHider();
        due("spanOwner(12, 1)", h.spanOwner(12, 1), -1);
        due("spanOwner(-1, -1)", h.spanOwner(-1, -1), -1);
        due("spanOwner(12, 0), of none", h.spanOwner(12, 0), -1);
        due("spanOwner(0, 1), of none", h.spanOwner(0, 1), -2);
    }

    // Promises 1 to 5

    private static void nothingAtFirst() {
        SpanHider h = new SpanHider();
        due("drawn()", h.drawn(), 0);
        due("lit()", h.lit(), 0);
        due("seams()", h.seams(), 0);
        due("remove(0)", h.remove(0), -1);
        due("owned(0)", h.owned(0), -1);
        window();
        due("drawn() of another object", new SpanHider().drawn(), 0);
        due("lit() of another object", new SpanHider().lit(), 0);
    }

    private static void pointsInTheirOrder() {
        SpanHider h = new SpanHider();
        drawPoints(h, 0, 0, 4, 0, 4, 4, 0, 4);
        due("covered(0) of a box", h.covered(0), 16);
        drawPoints(h, 0, 0, 4, 4, 4, 0, 0, 4);
        due("covered(1) of the same points as a bow", h.covered(1), 1 + 3 + 3 + 1);
    }

    private static void pointXOutside() {
        SpanHider h = new SpanHider();
        for (int x : outside(0, 24)) {
            due("point(" + x + ", 0)", h.point(x, 0), -1);
            due("point(" + x + ", 12)", h.point(x, 12), -1);
        }
        due("point(0, 6)", h.point(0, 6), 1);
        due("point(24, 6)", h.point(24, 6), 2);
    }

    private static void pointYOutside() {
        SpanHider h = new SpanHider();
        for (int y : outside(0, 12)) {
            due("point(0, " + y + ")", h.point(0, y), -1);
            due("point(24, " + y + ")", h.point(24, y), -1);
        }
        // What a column may be, a row may not.
        due("point(12, 24)", h.point(12, 24), -1);
        due("point(12, 0)", h.point(12, 0), 1);
        due("point(12, 12)", h.point(12, 12), 2);
    }

    private static void pointIntoAFullList() {
        SpanHider h = new SpanHider();
        points(h, 0, 0, 6, 0, 6, 2, 4, 2, 4, 4, 2, 4, 2, 6);
        due("point(0, 6), the eighth", h.point(0, 6), 8);
        due("point(1, 1), the ninth", h.point(1, 1), -2);
        due("point(0, 6), the eighth again", h.point(0, 6), -2);
        h.draw();
        due("point(1, 1) after draw()", h.point(1, 1), -2);
        h.clear();
        due("point(1, 1) after clear()", h.point(1, 1), 1);
    }

    private static void pointAnswersTheCount() {
        SpanHider h = new SpanHider();
        for (int k = 1; k <= 8; k++) {
            due("point(7, 7), number " + k, h.point(7, 7), k);
        }
    }

    private static void clearEmpties() {
        for (int count = 0; count <= 8; count++) {
            SpanHider h = scene(0, count);
            h.clear();
            due("draw() after clear() of " + count, h.draw(), -1);
            due("point(0, 0) after clear() of " + count, h.point(0, 0), 1);
            h.point(2, 0);
            due("draw() of two new points", h.draw(), -1);
            h.point(2, 2);
            due("draw() of three new points", h.draw(), 0);
            due("covered(0) of the new points alone", h.covered(0), 2 + 1);
        }
    }

    private static void clearAnswersTheCount() {
        for (int count = 0; count <= 8; count++) {
            SpanHider h = scene(0, count);
            due("clear() of " + count, h.clear(), count);
            due("clear() again", h.clear(), 0);
        }
    }

    private static void planeIsSet() {
        SpanHider h = new SpanHider();
        h.plane(9, 9, 9);
        h.plane(1, 10, 100);
        drawPoints(h, 0, 0, 24, 0, 24, 12, 0, 12);
        due("depthAt(0, 0)", h.depthAt(0, 0), 111);
        due("depthAt(1, 0)", h.depthAt(1, 0), 113);
        due("depthAt(0, 1)", h.depthAt(0, 1), 131);
        h.plane(0, 0, 0);
        due("depthAt(0, 0) after a plane for the draft", h.depthAt(0, 0), 111);
    }

    private static void planeAOutside() {
        SpanHider h = new SpanHider();
        for (int a : outside(-30, 30)) {
            due("plane(" + a + ", 0, 0)", h.plane(a, 0, 0), -1);
            due("plane(" + a + ", 30, 3000)", h.plane(a, 30, 3000), -1);
        }
        due("plane(-30, 0, 0)", h.plane(-30, 0, 0), 0);
        due("plane(30, 0, 0)", h.plane(30, 0, 0), 0);
    }

    private static void planeBOutside() {
        SpanHider h = new SpanHider();
        for (int b : outside(-30, 30)) {
            due("plane(0, " + b + ", 0)", h.plane(0, b, 0), -1);
            due("plane(-30, " + b + ", -3000)", h.plane(-30, b, -3000), -1);
        }
        due("plane(0, -30, 0)", h.plane(0, -30, 0), 0);
        due("plane(0, 30, 0)", h.plane(0, 30, 0), 0);
    }

    private static void planeCOutside() {
        SpanHider h = new SpanHider();
        for (int c : outside(-3000, 3000)) {
            due("plane(0, 0, " + c + ")", h.plane(0, 0, c), -2);
            due("plane(30, -30, " + c + ")", h.plane(30, -30, c), -2);
        }
        due("plane(0, 0, -3000)", h.plane(0, 0, -3000), 0);
        due("plane(0, 0, 3000)", h.plane(0, 0, 3000), 0);
    }

    private static void planeAnswersZero() {
        SpanHider h = new SpanHider();
        due("plane(0, 0, 0)", h.plane(0, 0, 0), 0);
        due("plane(30, 30, 3000)", h.plane(30, 30, 3000), 0);
        due("plane(-30, -30, -3000)", h.plane(-30, -30, -3000), 0);
        due("plane(1, 2, 3)", h.plane(1, 2, 3), 0);
    }

    private static void drawnCopyStaysApart() {
        SpanHider h = new SpanHider();
        h.plane(0, 0, 40);
        drawPoints(h, 0, 0, 3, 0, 3, 2, 0, 2);
        h.plane(0, 0, 50);
        points(h, 9, 9, 24, 9, 24, 12);
        due("covered(0) after a new draft", h.covered(0), 6);
        due("depthAt(2, 1) after a new draft", h.depthAt(2, 1), 40);
        h.clear();
        due("covered(0) after clear()", h.covered(0), 6);
    }

    private static void draftStaysAfterDraw() {
        SpanHider h = new SpanHider();
        h.plane(0, 0, 40);
        points(h, STAIRS);
        for (int k = 0; k < 6; k++) {
            due("draw()", h.draw(), k);
            due("covered(" + k + ")", h.covered(k), 24);
        }
        h.shift(0, 9, 5);
        due("draw(), refused", h.draw(), -2);
        removeAll(h);
        due("draw() of the draft again", h.draw(), 0);
        due("covers(0, 5, 1)", h.covers(0, 5, 1), 1);
        due("depthAt(5, 1)", h.depthAt(5, 1), 40);
        due("clear()", h.clear(), 8);
    }

    private static void drawTooFewPoints() {
        for (int count = 0; count <= 8; count++) {
            due("draw() of " + count + " points", scene(0, count).draw(), count < 3 ? -1 : 0);
        }
    }

    private static void drawTooManyPolygons() {
        for (int count = 0; count <= 6; count++) {
            due("draw() with " + count + " drawn", scene(count, 3).draw(), count == 6 ? -2 : count);
        }
        SpanHider h = scene(6, 3);
        h.remove(5);
        due("draw() after remove(5)", h.draw(), 5);
        due("draw() with six again", h.draw(), -2);
    }

    private static void drawAnswersTheNumber() {
        SpanHider h = pixelRow(4);
        due("draw()", box(h, 10, 0, 11, 1, 0), 4);
        due("owner(10, 0)", h.owner(10, 0), 4);
        h.remove(0);
        h.remove(0);
        due("draw() after two were removed", box(h, 12, 0, 13, 1, 0), 3);
        due("owner(12, 0)", h.owner(12, 0), 3);
    }

    // Promises 6 to 9

    private static void removeOfEachOfSix() {
        for (int gone = 0; gone < 6; gone++) {
            SpanHider h = pixelRow(6);
            h.remove(gone);
            for (int i = 0; i < 6; i++) {
                String call = "(" + i + ", 0) after remove(" + gone + ")";
                due("owner" + call, h.owner(i, 0), i < gone ? i : i == gone ? -2 : i - 1);
                due("depthAt" + call, h.depthAt(i, 0), i == gone ? NO_DEPTH : i);
            }
            due("drawn()", h.drawn(), 5);
        }
        SpanHider mixed = new SpanHider();
        drawPoints(mixed, 0, 0, 1, 0, 1, 1);
        drawPoints(mixed, STAIRS);
        drawPoints(mixed, 0, 0, 24, 0, 24, 12, 0, 12);
        mixed.remove(0);
        due("covered(0), eight points in the place of three", mixed.covered(0), 24);
        mixed.remove(0);
        due("covered(0), four points in the place of eight", mixed.covered(0), 288);
    }

    private static void removeAnswersTheRest() {
        SpanHider fromTheFirst = pixelRow(6);
        SpanHider fromTheLast = pixelRow(6);
        for (int left = 5; left >= 0; left--) {
            due("remove(0)", fromTheFirst.remove(0), left);
            due("remove(" + left + ")", fromTheLast.remove(left), left);
        }
        due("remove(0) of none", fromTheFirst.remove(0), -1);
    }

    private static void shiftMovesAllPoints() {
        SpanHider h = new SpanHider();
        drawPoints(h, STAIRS);
        due("shift(0, 18, 6)", h.shift(0, 18, 6), 0);
        for (int j = 0; j < ROWS; j++) {
            for (int i = 0; i < COLUMNS; i++) {
                due("covers(0, " + i + ", " + j + ")", h.covers(0, i, j), isOnStairs(i - 18, j - 6) ? 1 : 0);
            }
        }
        SpanHider six = pixelRow(6);
        six.shift(2, 0, 11);
        for (int i = 0; i < 6; i++) {
            due("owner(" + i + ", 0) after shift(2, 0, 11)", six.owner(i, 0), i == 2 ? -2 : i);
            due("owner(" + i + ", 11) after shift(2, 0, 11)", six.owner(i, 11), i == 2 ? 2 : -2);
        }
    }

    // All points but one stand at (x, y).
    private static SpanHider oneApart(int count, int which, int x, int y, int apartX, int apartY) {
        SpanHider h = new SpanHider();
        for (int k = 0; k < count; k++) {
            h.point(k == which ? apartX : x, k == which ? apartY : y);
        }
        h.draw();
        return h;
    }

    private static void shiftOnePointOutSideways() {
        for (int count = 3; count <= 8; count++) {
            for (int which = 0; which < count; which++) {
                String point = " with point " + which + " of " + count + " apart";
                SpanHider right = oneApart(count, which, 10, 5, 20, 5);
                due("shift(0, 5, 0)" + point, right.shift(0, 5, 0), -2);
                due("shift(0, 4, 0)" + point, right.shift(0, 4, 0), 0);
                due("shift(0, 1, 0)" + point, right.shift(0, 1, 0), -2);
                SpanHider left = oneApart(count, which, 10, 5, 3, 5);
                due("shift(0, -4, 0)" + point, left.shift(0, -4, 0), -2);
                due("shift(0, -3, 0)" + point, left.shift(0, -3, 0), 0);
                due("shift(0, -1, 0)" + point, left.shift(0, -1, 0), -2);
            }
        }
    }

    private static void shiftOnePointOutUpOrDown() {
        for (int count = 3; count <= 8; count++) {
            for (int which = 0; which < count; which++) {
                String point = " with point " + which + " of " + count + " apart";
                SpanHider down = oneApart(count, which, 10, 5, 10, 9);
                due("shift(0, 0, 4)" + point, down.shift(0, 0, 4), -2);
                due("shift(0, 0, 3)" + point, down.shift(0, 0, 3), 0);
                due("shift(0, 0, 1)" + point, down.shift(0, 0, 1), -2);
                SpanHider up = oneApart(count, which, 10, 5, 10, 2);
                due("shift(0, 0, -3)" + point, up.shift(0, 0, -3), -2);
                due("shift(0, 0, -2)" + point, up.shift(0, 0, -2), 0);
                due("shift(0, 0, -1)" + point, up.shift(0, 0, -1), -2);
            }
        }
    }

    // Three points drawn where eight on the border were: those are gone and hold nothing back.
    private static void shiftForgetsOldPoints() {
        SpanHider h = new SpanHider();
        drawPoints(h, 0, 0, 24, 0, 24, 12, 0, 12, 0, 0, 24, 0, 24, 12, 0, 12);
        drawPoints(h, 10, 4, 12, 4, 12, 6);
        due("shift(1, 12, 6) beside the full one", h.shift(1, 12, 6), 0);
        due("shift(0, 1, 0) of the full one", h.shift(0, 1, 0), -2);
        h.remove(0);
        due("shift(0, -22, -10) in the full one's place", h.shift(0, -22, -10), 0);
        due("covers(0, 1, 0)", h.covers(0, 1, 0), 1);
    }

    private static void shiftAcrossTheWindow() {
        SpanHider h = new SpanHider();
        box(h, 0, 0, 1, 1, 0);
        due("shift(0, 0, 0)", h.shift(0, 0, 0), 0);
        due("shift(0, 23, 11)", h.shift(0, 23, 11), 0);
        due("covers(0, 23, 11)", h.covers(0, 23, 11), 1);
        due("shift(0, -23, -11)", h.shift(0, -23, -11), 0);
        due("covers(0, 0, 0)", h.covers(0, 0, 0), 1);
        drawPoints(h, 0, 0, 0, 0, 0, 0);
        due("shift(1, 24, 12)", h.shift(1, 24, 12), 0);
        due("shift(1, -24, -12)", h.shift(1, -24, -12), 0);
    }

    private static void shiftByAnyDx() {
        SpanHider h = new SpanHider();
        drawPoints(h, 0, 3, 0, 3, 0, 3);
        drawPoints(h, 24, 3, 24, 3, 24, 3);
        drawPoints(h, 11, 3, 13, 3, 13, 5, 11, 5);
        for (int dx : outside(-24, 24)) {
            for (int polygon = 0; polygon < 3; polygon++) {
                due("shift(" + polygon + ", " + dx + ", 0)", h.shift(polygon, dx, 0), -2);
                due("shift(" + polygon + ", " + dx + ", 1)", h.shift(polygon, dx, 1), -2);
            }
        }
        due("covers(2, 11, 3)", h.covers(2, 11, 3), 1);
        due("covered(2)", h.covered(2), 4);
    }

    private static void shiftByAnyDy() {
        SpanHider h = new SpanHider();
        drawPoints(h, 3, 0, 3, 0, 3, 0);
        drawPoints(h, 3, 12, 3, 12, 3, 12);
        drawPoints(h, 11, 5, 13, 5, 13, 7, 11, 7);
        for (int dy : outside(-12, 12)) {
            for (int polygon = 0; polygon < 3; polygon++) {
                due("shift(" + polygon + ", 0, " + dy + ")", h.shift(polygon, 0, dy), -2);
                due("shift(" + polygon + ", 1, " + dy + ")", h.shift(polygon, 1, dy), -2);
            }
        }
        due("covers(2, 11, 5)", h.covers(2, 11, 5), 1);
        due("covered(2)", h.covered(2), 4);
    }

    private static void shiftKeepsThePlane() {
        SpanHider h = new SpanHider();
        h.plane(3, -5, 100);
        drawPoints(h, 0, 0, 2, 0, 2, 2, 0, 2);
        h.plane(1, 1, 1);
        h.shift(0, 10, 4);
        due("depthAt(10, 4), 3 * 21 - 5 * 9 + 100", h.depthAt(10, 4), 118);
        due("depthAt(11, 5), 3 * 23 - 5 * 11 + 100", h.depthAt(11, 5), 114);
    }

    private static void tiltOfOneOfSix() {
        for (int tilted = 0; tilted < 6; tilted++) {
            SpanHider h = pixelRow(6);
            h.clear();
            h.plane(1, 10, 100);
            h.tilt(tilted);
            for (int i = 0; i < 6; i++) {
                int want = i == tilted ? 2 * i + 1 + 10 + 100 : i;
                due("depthAt(" + i + ", 0) after tilt(" + tilted + ")", h.depthAt(i, 0), want);
                due("covered(" + i + ")", h.covered(i), 1);
            }
        }
        SpanHider later = window();
        later.tilt(0);
        later.plane(0, 0, 8);
        due("depthAt(0, 0) after a later plane", later.depthAt(0, 0), 7);
    }

    private static void tiltAnswersZero() {
        SpanHider h = pixelRow(6);
        for (int polygon = 0; polygon < 6; polygon++) {
            due("tilt(" + polygon + ")", h.tilt(polygon), 0);
        }
        h.clear();
        due("tilt(5) with an empty list", h.tilt(5), 0);
    }

    private static void drawnFromNoneToSix() {
        for (int count = 0; count <= 6; count++) {
            due("drawn() after " + count, scene(count, 8).drawn(), count);
        }
        SpanHider h = scene(6, 8);
        h.draw();
        due("drawn() after a seventh", h.drawn(), 6);
        for (int left = 5; left >= 0; left--) {
            h.remove(0);
            due("drawn() after remove(0)", h.drawn(), left);
        }
    }

    // Promises 10 to 12

    private static void ownerOfNone() {
        due("owner(0, 0) of nothing", new SpanHider().owner(0, 0), -2);
        SpanHider h = new SpanHider();
        box(h, 1, 1, 23, 11, 0);
        due("owner(0, 5)", h.owner(0, 5), -2);
        due("owner(23, 5)", h.owner(23, 5), -2);
        due("owner(5, 0)", h.owner(5, 0), -2);
        due("owner(5, 11)", h.owner(5, 11), -2);
        due("owner(1, 1)", h.owner(1, 1), 0);
        h.remove(0);
        due("owner(1, 1) after remove(0)", h.owner(1, 1), -2);
    }

    private static void depthIsTheOwners() {
        SpanHider h = new SpanHider();
        box(h, 0, 0, 24, 12, 3000);
        due("depthAt(4, 4), 3000", h.depthAt(4, 4), 3000);
        box(h, 4, 4, 8, 8, -3000);
        box(h, 4, 4, 12, 8, 0);
        due("depthAt(3, 4)", h.depthAt(3, 4), 3000);
        due("depthAt(4, 4)", h.depthAt(4, 4), -3000);
        due("depthAt(8, 4)", h.depthAt(8, 4), 0);
    }

    private static void depthOfNone() {
        due("depthAt(0, 0) of nothing", new SpanHider().depthAt(0, 0), NO_DEPTH);
        SpanHider h = new SpanHider();
        box(h, 1, 1, 23, 11, -3000);
        due("depthAt(0, 5)", h.depthAt(0, 5), NO_DEPTH);
        due("depthAt(23, 5)", h.depthAt(23, 5), NO_DEPTH);
        due("depthAt(1, 1)", h.depthAt(1, 1), -3000);
        h.remove(0);
        due("depthAt(1, 1) after remove(0)", h.depthAt(1, 1), NO_DEPTH);
    }

    private static void coversBehindAnother() {
        SpanHider h = window();
        box(h, 4, 4, 8, 8, 3000);
        due("covers(1, 4, 4), behind", h.covers(1, 4, 4), 1);
        due("covers(1, 7, 7), behind", h.covers(1, 7, 7), 1);
        due("covers(1, 3, 4)", h.covers(1, 3, 4), 0);
        due("covers(1, 8, 7)", h.covers(1, 8, 7), 0);
        due("covers(1, 4, 3)", h.covers(1, 4, 3), 0);
        due("covers(1, 7, 8)", h.covers(1, 7, 8), 0);
        due("covers(0, 4, 4), in front", h.covers(0, 4, 4), 1);
        due("covers(0, 23, 11)", h.covers(0, 23, 11), 1);
    }

    // Promises 13 to 15

    private static void spansFromOneToTwentyFour() {
        SpanHider most = combs();
        SpanHider ends = new SpanHider();
        box(ends, 0, 0, 1, 12, 0);
        box(ends, 23, 0, 24, 12, 0);
        for (int j = 0; j < ROWS; j++) {
            due("spans(" + j + ") of nothing", new SpanHider().spans(j), 1);
            due("spans(" + j + ") of the first and the last column", ends.spans(j), 3);
            due("spans(" + j + ") of combs", most.spans(j), 24);
        }
        SpanHider lastRow = new SpanHider();
        box(lastRow, 12, 11, 24, 12, 0);
        due("spans(10)", lastRow.spans(10), 1);
        due("spans(11)", lastRow.spans(11), 2);
    }

    private static void spanStartFirstAndLast() {
        SpanHider h = new SpanHider();
        box(h, 23, 0, 24, 12, 0);
        due("spanStart(0, 0)", h.spanStart(0, 0), 0);
        due("spanStart(0, 1)", h.spanStart(0, 1), 23);
        box(h, 0, 0, 1, 12, 0);
        due("spanStart(11, 0)", h.spanStart(11, 0), 0);
        due("spanStart(11, 1)", h.spanStart(11, 1), 1);
        due("spanStart(11, 2)", h.spanStart(11, 2), 23);
    }

    private static void spanOwnerFirstAndLast() {
        SpanHider h = new SpanHider();
        box(h, 0, 0, 23, 12, 5);
        box(h, 23, 0, 24, 12, 5);
        box(h, 0, 0, 1, 12, 4);
        due("spanOwner(0, 0)", h.spanOwner(0, 0), 2);
        due("spanOwner(0, 1)", h.spanOwner(0, 1), 0);
        due("spanOwner(11, 1)", h.spanOwner(11, 1), 0);
        due("spanOwner(11, 2)", h.spanOwner(11, 2), 1);
    }

    private static void spanOwnerOfNone() {
        due("spanOwner(0, 0) of nothing", new SpanHider().spanOwner(0, 0), -3);
        SpanHider h = upright();
        due("spanOwner(5, 0)", h.spanOwner(5, 0), -3);
        due("spanOwner(5, 1)", h.spanOwner(5, 1), 0);
        due("spanOwner(5, 2)", h.spanOwner(5, 2), -3);
    }

    // Promises 16 to 19

    private static void ownedFromNoneToAll() {
        SpanHider h = window();
        due("owned(0) of all", h.owned(0), 288);
        box(h, 0, 0, 24, 12, 8);
        due("owned(1), hidden", h.owned(1), 0);
        box(h, 0, 0, 1, 1, 6);
        box(h, 23, 11, 24, 12, 6);
        due("owned(2), the first pixel", h.owned(2), 1);
        due("owned(3), the last pixel", h.owned(3), 1);
        due("owned(0), the rest", h.owned(0), 286);
        drawPoints(h, 5, 5, 5, 5, 5, 5);
        due("owned(4), which covers nothing", h.owned(4), 0);
    }

    private static void coveredFromNoneToAll() {
        SpanHider h = window();
        due("covered(0) of all", h.covered(0), 288);
        box(h, 0, 0, 24, 12, 8);
        due("covered(1), hidden", h.covered(1), 288);
        box(h, 0, 0, 1, 1, 6);
        box(h, 23, 11, 24, 12, 6);
        due("covered(2), the first pixel", h.covered(2), 1);
        due("covered(3), the last pixel", h.covered(3), 1);
        due("covered(0), also where it is hidden", h.covered(0), 288);
        drawPoints(h, 5, 5, 5, 5, 5, 5);
        due("covered(4) of nothing", h.covered(4), 0);
    }

    private static void litFromNoneToAll() {
        SpanHider h = new SpanHider();
        due("lit() of nothing", h.lit(), 0);
        box(h, 0, 0, 1, 1, 0);
        due("lit() of the first pixel", h.lit(), 1);
        drawPoints(h, 5, 5, 5, 5, 5, 5);
        due("lit() with one that covers nothing", h.lit(), 1);
        box(h, 23, 11, 24, 12, 0);
        due("lit() of the last pixel, too", h.lit(), 2);
        box(h, 0, 0, 2, 2, 1);
        due("lit() of pixels that two cover", h.lit(), 5);
        box(h, 0, 0, 24, 12, 3000);
        due("lit() of all", h.lit(), 288);
        h.remove(4);
        due("lit() after remove(4)", h.lit(), 5);
    }

    private static void seamsWithinRowsAlone() {
        SpanHider h = new SpanHider();
        box(h, 0, 0, 24, 1, 0);
        box(h, 0, 1, 24, 2, 0);
        box(h, 0, 11, 24, 12, 0);
        due("seams() of owners above each other", h.seams(), 0);
        SpanHider ends = new SpanHider();
        box(ends, 23, 0, 24, 1, 0);
        box(ends, 0, 1, 1, 2, 0);
        due("seams() from a row's end to the next row's start", ends.seams(), 0);
    }

    private static void seamsNeedTwoOwners() {
        SpanHider h = new SpanHider();
        due("seams() of nothing", h.seams(), 0);
        box(h, 4, 0, 8, 12, 0);
        due("seams() of one with none beside it", h.seams(), 0);
        box(h, 9, 0, 12, 12, 0);
        due("seams() of two with a column between them", h.seams(), 0);
        h.shift(1, -1, 0);
        due("seams() of two side by side", h.seams(), 12);
    }

    private static void seamsFromNoneToMost() {
        SpanHider one = window();
        due("seams() of one owner", one.seams(), 0);
        box(one, 0, 0, 24, 12, 8);
        due("seams() of one owner before another", one.seams(), 0);
        SpanHider ends = window();
        box(ends, 0, 0, 1, 1, 6);
        due("seams() at the first pixel", ends.seams(), 1);
        box(ends, 23, 11, 24, 12, 6);
        due("seams() at the last pixel", ends.seams(), 2);
        SpanHider most = combs();
        for (int polygon = 5; polygon > 0; polygon--) {
            due("seams() of combs with gaps", most.seams(), 0);
            most.remove(polygon);
        }
        // One comb before the whole window: its two teeth have three seams in every row.
        most.plane(0, 0, 1);
        drawPoints(most, 0, 0, 24, 0, 24, 12, 0, 12);
        due("seams() of a comb before the window", most.seams(), 3 * 12);
    }
}
