import java.util.ArrayList;
import java.util.List;

/** The boundary cases of 'What it is' and 'Terms'. */
public final class TermsBoundaryTest {
    private static final int MIN = Make.MIN;
    private static final int MAX = Make.MAX;

    private TermsBoundaryTest() {
    }

    public static void main(String[] args) {
        callsUpToTheLast();
        everyCallAsTheLast();
        places();
        onePointAtAPlace();
        values();
        atMostFortyPoints();
        noneAtFirst();
        rectangleEdges();
        rectangleEdgesOfThePlane();
        goodRectangles();
        cornersInRange();
        cornersInOrder();
        goodPlaces();
        placeAsOneNumber();
        distance();
        questionsChangeNothing();
        refusedCallsChangeNothing();
        testsInTheOrderNamed();
        Due.finish();
    }

    private static void callsUpToTheLast() {
        Due.sentence("What it is", "An object is used for at most 512 calls after it has been made");
        GridFileIndex x = Boundary.holding(Boundary.FORTY);
        for (int call = 41; call <= 512; call += 4) {
            Due.same("call " + call + ": remove(0, 0)", x.remove(0, 0), 0);
            Due.same("call " + (call + 1) + ": size()", x.size(), 39);
            Due.same("call " + (call + 2) + ": put(0, 0, " + call + ")", x.put(0, 0, call), 1);
            Due.same("call " + (call + 3) + ": valueAt(0, 0)", x.valueAt(0, 0), call);
        }
    }

    /** The 512th call is promised like the first, whichever it is. */
    private static void everyCallAsTheLast() {
        Due.sentence("What it is", "An object is used for at most 512 calls after it has been made");
        int[] points = Boundary.FORTY;
        Call[] calls = {
            Call.put(0, 0, 4), Call.put(0, 1, 4), Call.remove(31, 31), Call.clear(0, 1023), Call.move(0, 1),
            Call.scatter(0, Make.walk(0, 0, 40), 4), Call.size(), Call.has(31, 31), Call.valueAt(31, 31),
            Call.count(0, 1023), Call.sum(0, 1023), Call.most(0, 1023), Call.point(0, 1023, 39),
            Call.nearest(31, 31), Call.within(0, 0, MAX), Call.closest(), Call.line(0, 31), Call.frontier(),
        };
        int[] due = {
            0, -2, 0, 40, 0, 40, 40, 1, points[79], 40, 40 * 1000 - 37 * 780, 1000, 1023, 1023, 40, 25, 2, 1,
        };
        for (int i = 0; i < calls.length; i++) {
            GridFileIndex x = Boundary.holding(points);
            for (int call = 41; call < 512; call++) {
                Due.same("call " + call + ": put(0, 0, " + points[1] + ")", x.put(0, 0, points[1]), 0);
            }
            Due.same("call 512: " + calls[i].text(), calls[i].on(x), due[i]);
        }
    }

    private static void places() {
        Due.sentence("Terms", "PLACES are pairs (x, y) of whole numbers 0 .. 31.");
        for (int c = 0; c < 32; c++) {
            GridFileIndex x = new GridFileIndex();
            for (int y = 0; y < 32; y++) {
                Due.same("put(" + c + ", " + y + ", 1)", x.put(c, y, 1), 1);
                Due.same("has(" + c + ", " + y + ")", x.has(c, y), 1);
            }
            Due.same("size() with column " + c, x.size(), 32);
        }
    }

    private static void onePointAtAPlace() {
        Due.sentence("Terms", "At a place there is at most one POINT");
        int[] one = Boundary.ONE;
        Boundary.becomes(one, Call.put(16, 5, 8), 0, one[0], 8);
        Boundary.becomes(one, Call.put(16, 5, 7), 0, one);
        Boundary.becomes(one, Call.scatter(one[0], Make.walk(0, 0, 2), 8), 1, one[0], 9);
        int[] two = {3, 1, 4, 2};
        Boundary.stays(two, Call.move(3, 4), -3);
    }

    private static void values() {
        Due.sentence("Terms", "a point has a VALUE, an int");
        for (int value : new int[] {MIN, MIN + 1, -1, 0, 1, MAX - 1, MAX}) {
            int[] point = {100, value};
            Boundary.becomes(Boundary.NONE, Call.put(3, 4, value), 1, point);
            Boundary.becomes(new int[] {100, 5}, Call.put(3, 4, value), 0, point);
            Boundary.becomes(Boundary.NONE, Call.scatter(100, Make.walk(0, 0, 1), value), 1, point);
            Boundary.becomes(point, Call.move(100, 101), 0, 101, value);
            Boundary.stays(point, Call.valueAt(3, 4), value);
        }
    }

    private static void atMostFortyPoints() {
        Due.sentence("Terms", "There are at most 40 points");
        GridFileIndex x = new GridFileIndex();
        for (int i = 0; i < 40; i++) {
            Due.same("put " + (i + 1), x.put(i % 32, 30 + i / 32, i), 1);
            Due.same("size() after put " + (i + 1), x.size(), i + 1);
        }
        Due.same("put 41", x.put(9, 9, 9), -2);
        Due.same("size() after put 41", x.size(), 40);
        Boundary.stays(Boundary.FORTY, Call.put(0, 1, 9), -2);
        Boundary.stays(Boundary.FORTY, Call.scatter(1, Make.walk(0, 0, 1), 9), 40);
        GridFileIndex y = new GridFileIndex();
        Due.same("scatter of 32 places", y.scatter(0, Make.walk(0, 1, 32), 0), 32);
        Due.same("scatter of 32 places more", y.scatter(32, Make.walk(0, 1, 32), 0), 40);
    }

    private static void noneAtFirst() {
        Due.sentence("Terms", "none at first");
        Due.points("a new object", new GridFileIndex());
        Boundary.goesOnAlike("a new object", new GridFileIndex(), Boundary.holding(Boundary.NONE));
    }

    /** One point alone is in the rectangle, or is not, for every call that takes one. */
    private static void onePoint(int low, int high, int x, int y, boolean inside) {
        int place = Make.at(x, y);
        int[] point = {place, 77};
        Boundary.stays(point, Call.count(low, high), inside ? 1 : 0);
        Boundary.stays(point, Call.sum(low, high), inside ? 77 : 0);
        Boundary.stays(point, Call.most(low, high), inside ? 77 : MIN);
        Boundary.stays(point, Call.point(low, high, 0), inside ? place : -2);
        Boundary.becomes(point, Call.clear(low, high), inside ? 1 : 0, inside ? Boundary.NONE : point);
    }

    private static void rectangleEdges() {
        Due.sentence("Terms", "A RECTANGLE (x1, y1, x2, y2) is the places with x1 <= x <= x2 and y1 <= y <= y2");
        int low = Make.at(10, 12);
        int high = Make.at(20, 22);
        for (int x : new int[] {9, 10, 11, 15, 19, 20, 21}) {
            for (int y : new int[] {11, 12, 13, 17, 21, 22, 23}) {
                onePoint(low, high, x, y, 10 <= x && x <= 20 && 12 <= y && y <= 22);
            }
        }
        int[] rectangleOfOnePlace = {Make.at(10, 12), Make.at(10, 12)};
        for (int x = 9; x <= 11; x++) {
            for (int y = 11; y <= 13; y++) {
                onePoint(rectangleOfOnePlace[0], rectangleOfOnePlace[1], x, y, x == 10 && y == 12);
            }
        }
    }

    private static void rectangleEdgesOfThePlane() {
        Due.sentence("Terms", "A RECTANGLE (x1, y1, x2, y2) is the places with x1 <= x <= x2 and y1 <= y <= y2");
        int[] ends = {0, 1, 15, 30, 31};
        for (int x : ends) {
            for (int y : ends) {
                onePoint(0, 1023, x, y, true);
                onePoint(Make.at(0, 0), Make.at(0, 31), x, y, x == 0);
                onePoint(Make.at(31, 0), Make.at(31, 31), x, y, x == 31);
                onePoint(Make.at(0, 0), Make.at(31, 0), x, y, y == 0);
                onePoint(Make.at(0, 31), Make.at(31, 31), x, y, y == 31);
                onePoint(Make.at(0, 0), Make.at(0, 0), x, y, x == 0 && y == 0);
                onePoint(Make.at(31, 31), Make.at(31, 31), x, y, x == 31 && y == 31);
            }
        }
    }

    private static void refusedRectangles(int[][] rectangles) {
        for (int[] r : rectangles) {
            Boundary.staysInAll(Call.clear(r[0], r[1]), -1);
            Boundary.staysInAll(Call.count(r[0], r[1]), -1);
            Boundary.staysInAll(Call.sum(r[0], r[1]), 0);
            Boundary.staysInAll(Call.most(r[0], r[1]), MIN);
            Boundary.staysInAll(Call.point(r[0], r[1], 0), -1);
        }
    }

    private static void goodRectangles() {
        Due.sentence("Terms", "it is given by two corners, low = 32 * x1 + y1 and high = 32 * x2 + y2, and is good if");
        int[][] good = {{0, 0}, {0, 1023}, {1023, 1023}, {0, 31}, {992, 1023}, {0, 992}, {31, 1023}, {31, 31}, {992, 992}};
        for (int[] r : good) {
            Boundary.stays(Boundary.NONE, Call.clear(r[0], r[1]), 0);
            Boundary.stays(Boundary.NONE, Call.count(r[0], r[1]), 0);
            Boundary.stays(Boundary.NONE, Call.point(r[0], r[1], 0), -2);
            int[] point = {r[0], 3};
            Boundary.stays(point, Call.sum(r[0], r[1]), 3);
            Boundary.stays(point, Call.most(r[0], r[1]), 3);
        }
    }

    private static void cornersInRange() {
        Due.sentence("Terms", "good if both are in 0 .. 1023");
        refusedRectangles(Boundary.LOW_NOT_A_NUMBER);
        refusedRectangles(Boundary.HIGH_NOT_A_NUMBER);
        refusedRectangles(Boundary.BOTH_NOT_NUMBERS);
    }

    private static void cornersInOrder() {
        Due.sentence("Terms", "good if ... x1 <= x2");
        refusedRectangles(Boundary.X_FALLS);
        Due.sentence("Terms", "good if ... y1 <= y2");
        refusedRectangles(Boundary.Y_FALLS);
        Due.sentence("Terms", "good if ... x1 <= x2 and y1 <= y2");
        refusedRectangles(Boundary.BOTH_FALL);
    }

    private static void goodPlaces() {
        Due.sentence("Terms", "A place is good if x and y are 0 .. 31");
        for (int[] p : new int[][] {{0, 0}, {0, 31}, {31, 0}, {31, 31}}) {
            Boundary.becomes(Boundary.NONE, Call.put(p[0], p[1], 1), 1, Make.at(p[0], p[1]), 1);
            Boundary.stays(Boundary.NONE, Call.remove(p[0], p[1]), -2);
            Boundary.stays(Boundary.NONE, Call.has(p[0], p[1]), 0);
            Boundary.stays(Boundary.NONE, Call.nearest(p[0], p[1]), -2);
            Boundary.stays(Boundary.NONE, Call.within(p[0], p[1], MAX), 0);
        }
        for (int[] p : Boundary.BAD_PAIRS) {
            Boundary.staysInAll(Call.put(p[0], p[1], 1), -1);
            Boundary.staysInAll(Call.remove(p[0], p[1]), -1);
            Boundary.staysInAll(Call.has(p[0], p[1]), -1);
            Boundary.staysInAll(Call.valueAt(p[0], p[1]), 0);
            Boundary.staysInAll(Call.nearest(p[0], p[1]), -1);
            Boundary.staysInAll(Call.within(p[0], p[1], MAX), -1);
        }
    }

    private static void placeAsOneNumber() {
        Due.sentence("Terms", "as one number it is 32 * x + y");
        int[][] places = {{0, 0, 0}, {0, 31, 31}, {1, 0, 32}, {30, 31, 991}, {31, 0, 992}, {31, 31, 1023}};
        for (int[] p : places) {
            int[] point = {p[2], 6};
            Boundary.becomes(Boundary.NONE, Call.put(p[0], p[1], 6), 1, point);
            Boundary.stays(point, Call.valueAt(p[0], p[1]), 6);
            Boundary.stays(point, Call.point(0, 1023, 0), p[2]);
            Boundary.stays(point, Call.nearest(16, 16), p[2]);
            Boundary.stays(point, Call.count(p[2], p[2]), 1);
            Boundary.becomes(point, Call.move(p[2], 500), 0, 500, 6);
            Boundary.becomes(Boundary.NONE, Call.scatter(p[2], Make.walk(0, 0, 1), 6), 1, point);
        }
    }

    private static void distance() {
        Due.sentence("Terms", "The DISTANCE of two places is the square of the difference of their x plus"
            + " the square of the difference of their y.");
        int[][] pairs = {
            {5, 5, 5, 5, 0}, {5, 5, 6, 5, 1}, {5, 5, 5, 4, 1}, {5, 5, 4, 6, 2}, {7, 9, 4, 13, 25}, {9, 7, 13, 4, 25},
            {0, 0, 31, 0, 961}, {0, 31, 0, 0, 961}, {0, 0, 31, 31, 1922}, {31, 0, 0, 31, 1922}, {0, 31, 1, 0, 962},
        };
        for (int[] p : pairs) {
            int[] point = {Make.at(p[0], p[1]), 1};
            Boundary.stays(point, Call.within(p[2], p[3], p[4]), 1);
            Boundary.stays(point, Call.within(p[2], p[3], p[4] - 1), 0);
            if (p[4] > 0) {
                int other = Make.at(p[2], p[3]);
                int least = Math.min(point[0], other);
                int greatest = Math.max(point[0], other);
                Boundary.stays(new int[] {least, 1, greatest, 1}, Call.closest(), p[4]);
            }
        }
    }

    private static List<Call> questions() {
        List<Call> calls = new ArrayList<>(List.of(Call.size(), Call.closest(), Call.frontier()));
        for (int[] p : new int[][] {{0, 0}, {31, 31}, {16, 5}, {9, 9}, {-1, 5}, {5, 32}, {MIN, MAX}}) {
            calls.add(Call.has(p[0], p[1]));
            calls.add(Call.valueAt(p[0], p[1]));
            calls.add(Call.nearest(p[0], p[1]));
            calls.add(Call.line(p[0], p[1]));
            calls.add(Call.line(0, p[0]));
            calls.add(Call.line(1, p[1]));
            for (int reach : new int[] {MIN, -1, 0, 50, MAX}) {
                calls.add(Call.within(p[0], p[1], reach));
            }
        }
        for (int[] r : new int[][] {{0, 1023}, {0, 0}, {165, 700}, {-1, 1023}, {0, 1024}, {33, 31}, {MIN, MAX}}) {
            calls.add(Call.count(r[0], r[1]));
            calls.add(Call.sum(r[0], r[1]));
            calls.add(Call.most(r[0], r[1]));
            for (int i : new int[] {MIN, -1, 0, 1, 39, 40, MAX}) {
                calls.add(Call.point(r[0], r[1], i));
            }
        }
        return calls;
    }

    private static void questionsChangeNothing() {
        Due.sentence("Terms", "No question changes anything.");
        for (int[] points : Boundary.STATES) {
            for (Call question : questions()) {
                GridFileIndex asked = Boundary.holding(points);
                int first = question.on(asked);
                String when = Boundary.shown(points) + "after " + question.text();
                // Looked at between the two: the second could undo what the first did.
                Due.points(when, asked, points);
                Due.same(when + ": the same once more", question.on(asked), first);
                Boundary.goesOnAlike(when, asked, Boundary.holding(points));
            }
        }
    }

    private static void refusedCallsChangeNothing() {
        Due.sentence("Terms", "A refused call changes nothing.");
        // Many refusals one after the other: what each takes a little of would be missed after the first.
        for (int[] points : Boundary.STATES) {
            GridFileIndex x = Boundary.holding(points);
            for (int[] p : Boundary.BAD_PAIRS) {
                Due.same("put(" + p[0] + ", " + p[1] + ", 3)", x.put(p[0], p[1], 3), -1);
                Due.same("remove(" + p[0] + ", " + p[1] + ")", x.remove(p[0], p[1]), -1);
            }
            for (int n : Boundary.BAD_NUMBERS) {
                Due.same("clear(" + n + ", 1023)", x.clear(n, 1023), -1);
                Due.same("scatter(" + n + ", 1, 3)", x.scatter(n, 1, 3), -1);
                Due.same("scatter(3, 0, " + n + ")", x.scatter(3, 0, n), -2);
                Due.same("move(" + n + ", 3)", x.move(n, 3), -1);
            }
            for (int i = 0; i < 41; i++) {
                Due.same("remove(9, 9)", x.remove(9, 9), -2);
                Due.same("move(297, 3)", x.move(297, 3), -2);
            }
            Due.points(Boundary.shown(points) + "after refused calls", x, points);
            Boundary.goesOnAlike(Boundary.shown(points) + "after refused calls", x, Boundary.holding(points));
        }
        GridFileIndex full = Boundary.holding(Boundary.FORTY);
        for (int i = 0; i < 41; i++) {
            Due.same("put(9, 9, 1)", full.put(9, 9, 1), -2);
            Due.same("move(0, 1023)", full.move(0, 1023), -3);
            Due.same("move(0, 0)", full.move(0, 0), -3);
        }
        Due.points("after refused calls on 40", full, Boundary.FORTY);
        Boundary.goesOnAlike("after refused calls on 40", full, Boundary.holding(Boundary.FORTY));
    }

    private static void testsInTheOrderNamed() {
        Due.sentence("Terms", "In every method the tests are made in the order named.");
        Boundary.stays(Boundary.FORTY, Call.put(32, 0, 1), -1);
        Boundary.stays(Boundary.FORTY, Call.put(0, -1, 1), -1);
        Boundary.stays(Boundary.NONE, Call.remove(-1, 0), -1);
        Boundary.stays(Boundary.NONE, Call.remove(0, 32), -1);
        Boundary.staysInAll(Call.scatter(-1, 0, 1), -1);
        Boundary.staysInAll(Call.scatter(1024, MAX, 1), -1);
        Boundary.stays(Boundary.NONE, Call.move(3, 1024), -1);
        Boundary.stays(Boundary.NONE, Call.move(-1, 3), -1);
        Boundary.stays(Boundary.EDGES, Call.move(1024, 0), -1);
        Boundary.stays(Boundary.NONE, Call.move(-1, -1), -1);
        Boundary.stays(Boundary.ONE, Call.move(3, Boundary.ONE[0]), -2);
        Boundary.stays(Boundary.ONE, Call.move(3, 3), -2);
        Boundary.staysInAll(Call.point(-1, 1023, -1), -1);
        Boundary.staysInAll(Call.point(0, 1024, 40), -1);
        Boundary.stays(Boundary.NONE, Call.nearest(0, 32), -1);
        Boundary.staysInAll(Call.line(2, 32), -1);
        Boundary.staysInAll(Call.line(-1, -1), -1);
    }
}
