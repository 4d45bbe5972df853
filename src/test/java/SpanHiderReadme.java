// The example of README.md: every call in its order, with the answer that it tells.
public final class SpanHiderReadme {
    private static int wrong = 0;

    public static void main(String[] args) {
        SpanHider h = new SpanHider();
        drawsTheWindow(h);
        drawsABoxInFront(h);
        asks(h);
        changes(h);
        System.out.println(wrong == 0 ? "all answers are as due" : wrong + " answers are not as due");
        if (wrong != 0) {
            System.exit(1);
        }
    }

    private static void due(String call, int got, int want) {
        if (got != want) {
            wrong++;
            System.out.println(call + " answered " + got + ", due is " + want);
        }
    }

    private static void drawsTheWindow(SpanHider h) {
        due("point(0, 0)", h.point(0, 0), 1);
        due("point(24, 0)", h.point(24, 0), 2);
        due("point(24, 12)", h.point(24, 12), 3);
        due("point(0, 12)", h.point(0, 12), 4);
        due("plane(0, 0, 50)", h.plane(0, 0, 50), 0);
        due("draw()", h.draw(), 0);
    }

    private static void drawsABoxInFront(SpanHider h) {
        due("clear()", h.clear(), 4);
        due("point(4, 2)", h.point(4, 2), 1);
        due("point(10, 2)", h.point(10, 2), 2);
        due("point(10, 6)", h.point(10, 6), 3);
        due("point(4, 6)", h.point(4, 6), 4);
        due("plane(0, 0, 10)", h.plane(0, 0, 10), 0);
        due("draw()", h.draw(), 1);
    }

    private static void asks(SpanHider h) {
        due("drawn()", h.drawn(), 2);
        due("owner(5, 3)", h.owner(5, 3), 1);
        due("depthAt(5, 3)", h.depthAt(5, 3), 10);
        due("covers(0, 5, 3)", h.covers(0, 5, 3), 1);
        due("spans(3)", h.spans(3), 3);
        due("spanStart(3, 1)", h.spanStart(3, 1), 4);
        due("spanOwner(3, 1)", h.spanOwner(3, 1), 1);
        due("owned(1)", h.owned(1), 24);
        due("covered(0)", h.covered(0), 288);
        due("lit()", h.lit(), 288);
        due("seams()", h.seams(), 8);
    }

    private static void changes(SpanHider h) {
        due("shift(1, 2, 0)", h.shift(1, 2, 0), 0);
        due("spanStart(3, 1)", h.spanStart(3, 1), 6);
        due("plane(0, 0, 90)", h.plane(0, 0, 90), 0);
        due("tilt(1)", h.tilt(1), 0);
        due("owner(7, 3)", h.owner(7, 3), 0);
        due("remove(0)", h.remove(0), 1);
        due("owner(7, 3)", h.owner(7, 3), 0);
        due("depthAt(7, 3)", h.depthAt(7, 3), 90);
        due("owner(0, 0)", h.owner(0, 0), -2);
        due("depthAt(0, 0)", h.depthAt(0, 0), 1000000);
        due("spanOwner(3, 0)", h.spanOwner(3, 0), -3);
        due("owned(1)", h.owned(1), -1);
    }
}
