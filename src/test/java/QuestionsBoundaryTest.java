/** The boundary cases of promises 7 to 13, sentence by sentence. */
public final class QuestionsBoundaryTest {
    private static final int MIN = Make.MIN;
    private static final int MAX = Make.MAX;
    private static final int[] NONE = Boundary.NONE;
    private static final int[] ONE = Boundary.ONE;
    private static final int[] THIRTY_NINE = Boundary.THIRTY_NINE;
    private static final int[] FORTY = Boundary.FORTY;

    private QuestionsBoundaryTest() {
    }

    public static void main(String[] args) {
        size();
        has();
        valueAt();
        count();
        sum();
        sumWraps();
        most();
        point();
        pointRefused();
        Due.finish();
    }

    private static void size() {
        Due.sentence("Promise 7", "How many points there are.");
        for (int[] points : Boundary.STATES) {
            Boundary.stays(points, Call.size(), points.length / 2);
        }
        GridFileIndex x = Boundary.holding(THIRTY_NINE);
        x.put(31, 31, 1);
        Due.same("size() after the 40th", x.size(), 40);
        x.put(9, 9, 1);
        Due.same("size() after the 41st, refused", x.size(), 40);
        x.put(31, 31, 2);
        Due.same("size() after a changed value", x.size(), 40);
        x.move(0, 1);
        Due.same("size() after a move", x.size(), 40);
        x.remove(31, 31);
        Due.same("size() after a remove", x.size(), 39);
        x.clear(0, 1023);
        Due.same("size() after a clear", x.size(), 0);
    }

    private static void has() {
        Due.sentence("Promise 8", "1 if there is a point, otherwise 0");
        for (int[] points : Boundary.STATES) {
            for (int i = 0; i < points.length; i += 2) {
                Boundary.stays(points, Call.has(points[i] / 32, points[i] % 32), 1);
            }
        }
        for (int[] p : new int[][] {{0, 0}, {0, 31}, {31, 0}, {31, 31}}) {
            Boundary.stays(NONE, Call.has(p[0], p[1]), 0);
            Boundary.stays(ONE, Call.has(p[0], p[1]), 0);
        }
        for (int[] p : new int[][] {{15, 5}, {17, 5}, {16, 4}, {16, 6}, {5, 16}}) {
            Boundary.stays(ONE, Call.has(p[0], p[1]), 0);
        }
        Boundary.stays(FORTY, Call.has(0, 1), 0);
        Boundary.stays(THIRTY_NINE, Call.has(31, 31), 0);
        GridFileIndex x = Boundary.holding(FORTY);
        x.remove(31, 31);
        Due.same("has of a point taken out", x.has(31, 31), 0);
        Due.sentence("Promise 8", "-1 if (x, y) is not good");
        for (int[] p : Boundary.BAD_PAIRS) {
            Boundary.staysInAll(Call.has(p[0], p[1]), -1);
        }
    }

    private static void valueAt() {
        Due.sentence("Promise 9", "The value of the point");
        for (int[] points : Boundary.STATES) {
            for (int i = 0; i < points.length; i += 2) {
                Boundary.stays(points, Call.valueAt(points[i] / 32, points[i] % 32), points[i + 1]);
            }
        }
        for (int value : new int[] {MIN, -1, 0, 1, MAX}) {
            Boundary.stays(new int[] {0, value, 1023, 5}, Call.valueAt(0, 0), value);
            Boundary.stays(new int[] {0, 5, 1023, value}, Call.valueAt(31, 31), value);
        }
        Due.sentence("Promise 9", "0 if (x, y) is not good");
        for (int[] p : Boundary.BAD_PAIRS) {
            Boundary.staysInAll(Call.valueAt(p[0], p[1]), 0);
        }
        Due.sentence("Promise 9", "0 if ... there is none");
        Boundary.stays(NONE, Call.valueAt(0, 0), 0);
        Boundary.stays(NONE, Call.valueAt(31, 31), 0);
        for (int[] p : new int[][] {{15, 5}, {17, 5}, {16, 4}, {16, 6}, {5, 16}, {0, 0}, {31, 31}}) {
            Boundary.stays(ONE, Call.valueAt(p[0], p[1]), 0);
        }
        Boundary.stays(FORTY, Call.valueAt(0, 1), 0);
        GridFileIndex x = Boundary.holding(FORTY);
        x.remove(31, 31);
        Due.same("valueAt of a point taken out", x.valueAt(31, 31), 0);
        x.move(0, 1);
        Due.same("valueAt of a point moved away", x.valueAt(0, 0), 0);
    }

    private static void count() {
        Due.sentence("Promise 10", "How many points a rectangle has");
        for (int[] points : Boundary.STATES) {
            Boundary.stays(points, Call.count(0, 1023), points.length / 2);
        }
        Boundary.stays(NONE, Call.count(0, 0), 0);
        Boundary.stays(ONE, Call.count(ONE[0], ONE[0]), 1);
        Boundary.stays(ONE, Call.count(0, 0), 0);
        Boundary.stays(FORTY, Call.count(0, 0), 1);
        Boundary.stays(FORTY, Call.count(1023, 1023), 1);
        Boundary.stays(FORTY, Call.count(1, 1), 0);
        int[] column = new int[64];
        for (int y = 0; y < 32; y++) {
            column[2 * y] = Make.at(7, y);
        }
        Boundary.stays(column, Call.count(Make.at(7, 0), Make.at(7, 31)), 32);
        Boundary.stays(column, Call.count(Make.at(0, 31), Make.at(31, 31)), 1);
        Boundary.stays(column, Call.count(Make.at(6, 0), Make.at(6, 31)), 0);
        Due.sentence("Promise 10", "-1 if it is not good");
        for (int[] r : Boundary.BAD_RECTANGLES) {
            Boundary.staysInAll(Call.count(r[0], r[1]), -1);
        }
    }

    private static void sum() {
        Due.sentence("Promise 11", "The sum of the values of a rectangle's points");
        Boundary.stays(NONE, Call.sum(0, 1023), 0);
        Boundary.stays(ONE, Call.sum(0, 1023), 7);
        Boundary.stays(ONE, Call.sum(ONE[0], ONE[0]), 7);
        Boundary.stays(ONE, Call.sum(0, 0), 0);
        // 1000 - 37 * i for i = 0 .. 39
        Boundary.stays(FORTY, Call.sum(0, 1023), 40 * 1000 - 37 * 780);
        Boundary.stays(FORTY, Call.sum(0, 0), 1000);
        Boundary.stays(FORTY, Call.sum(1023, 1023), 1000 - 37 * 39);
        Boundary.stays(new int[] {3, -8, 4, 8}, Call.sum(0, 1023), 0);
        Due.sentence("Promise 11", "0 if it is not good");
        for (int[] r : Boundary.BAD_RECTANGLES) {
            Boundary.staysInAll(Call.sum(r[0], r[1]), 0);
        }
    }

    private static int[] fortyOf(int value) {
        int[] points = FORTY.clone();
        for (int i = 1; i < 80; i += 2) {
            points[i] = value;
        }
        return points;
    }

    private static void sumWraps() {
        Due.sentence("Promise 11", "(wrapping like an int)");
        Boundary.stays(new int[] {3, MAX, 4, 0}, Call.sum(0, 1023), MAX);
        Boundary.stays(new int[] {3, MAX, 4, 1}, Call.sum(0, 1023), MIN);
        Boundary.stays(new int[] {3, 1, 4, MAX}, Call.sum(0, 1023), MIN);
        Boundary.stays(new int[] {3, MAX, 4, MAX}, Call.sum(0, 1023), -2);
        Boundary.stays(new int[] {3, MIN, 4, -1}, Call.sum(0, 1023), MAX);
        Boundary.stays(new int[] {3, MIN, 4, MIN}, Call.sum(0, 1023), 0);
        Boundary.stays(new int[] {3, MIN, 4, MAX}, Call.sum(0, 1023), -1);
        Boundary.stays(new int[] {3, MAX, 4, 1, 5, -1}, Call.sum(0, 1023), MAX);
        Boundary.stays(fortyOf(MAX), Call.sum(0, 1023), -40);
        Boundary.stays(fortyOf(MIN), Call.sum(0, 1023), 0);
        Boundary.stays(fortyOf(MIN + 1), Call.sum(0, 1023), 40);
    }

    private static void most() {
        Due.sentence("Promise 12", "The greatest value of a rectangle's points");
        for (int value : new int[] {MIN, MIN + 1, -1, 0, 1, MAX}) {
            Boundary.stays(new int[] {100, value}, Call.most(0, 1023), value);
            Boundary.stays(new int[] {100, value, 101, MIN}, Call.most(0, 1023), value);
            Boundary.stays(new int[] {100, MIN, 101, value}, Call.most(0, 1023), value);
            Boundary.stays(new int[] {100, MAX, 101, value}, Call.most(101, 101), value);
        }
        Boundary.stays(new int[] {3, -3, 4, -2, 5, -4}, Call.most(0, 1023), -2);
        Boundary.stays(FORTY, Call.most(0, 1023), 1000);
        Boundary.stays(FORTY, Call.most(1023, 1023), 1000 - 37 * 39);
        Boundary.stays(Boundary.with(FORTY, 1023, 1001), Call.most(0, 1023), 1001);
        Due.sentence("Promise 12", "-2147483648 if it is not good");
        for (int[] r : Boundary.BAD_RECTANGLES) {
            Boundary.staysInAll(Call.most(r[0], r[1]), MIN);
        }
        Due.sentence("Promise 12", "-2147483648 if it ... has none");
        Boundary.stays(NONE, Call.most(0, 1023), MIN);
        Boundary.stays(NONE, Call.most(0, 0), MIN);
        Boundary.stays(ONE, Call.most(0, Make.at(15, 31)), MIN);
        Boundary.stays(ONE, Call.most(Make.at(17, 0), 1023), MIN);
        Boundary.stays(FORTY, Call.most(1, 1), MIN);
    }

    private static void point() {
        Due.sentence("Promise 13", "The i-th point of a rectangle, as one number, in rising order of numbers (0 for the first).");
        for (int[] points : Boundary.STATES) {
            for (int i = 0; i < points.length / 2; i++) {
                Boundary.stays(points, Call.point(0, 1023, i), points[2 * i]);
            }
        }
        Boundary.stays(ONE, Call.point(ONE[0], ONE[0], 0), ONE[0]);
        Boundary.stays(FORTY, Call.point(1023, 1023, 0), 1023);
        Boundary.stays(Boundary.EDGES, Call.point(0, 31, 2), 31);
        Boundary.stays(Boundary.EDGES, Call.point(992, 1023, 0), 992);
        Boundary.stays(Boundary.EDGES, Call.point(992, 1023, 2), 1023);
        // By row first (9, 3) would come before (3, 9).
        int[] two = {Make.at(3, 9), 1, Make.at(9, 3), 2};
        Boundary.stays(two, Call.point(0, 1023, 0), two[0]);
        Boundary.stays(two, Call.point(0, 1023, 1), two[2]);
        // The points outside, with numbers between those inside, are not counted.
        int[] inAndOut = {Make.at(2, 2), 1, Make.at(2, 9), 1, Make.at(3, 0), 1, Make.at(3, 3), 1, Make.at(9, 3), 1};
        Boundary.stays(inAndOut, Call.point(Make.at(2, 2), Make.at(4, 4), 0), Make.at(2, 2));
        Boundary.stays(inAndOut, Call.point(Make.at(2, 2), Make.at(4, 4), 1), Make.at(3, 3));
    }

    private static void pointRefused() {
        Due.sentence("Promise 13", "-1 if the rectangle is not good");
        for (int[] r : Boundary.BAD_RECTANGLES) {
            for (int i : new int[] {-1, 0, 1}) {
                Boundary.staysInAll(Call.point(r[0], r[1], i), -1);
            }
        }
        Due.sentence("Promise 13", "-2 if there is no such point");
        for (int[] points : Boundary.STATES) {
            int size = points.length / 2;
            for (int i : new int[] {size, size + 1, 40, 41, 1023, MAX, -1, -2, -40, MIN}) {
                Boundary.stays(points, Call.point(0, 1023, i), -2);
            }
        }
        Boundary.stays(ONE, Call.point(0, 0, 0), -2);
        Boundary.stays(FORTY, Call.point(0, 0, 1), -2);
        Boundary.stays(FORTY, Call.point(1, 1, 0), -2);
        Boundary.stays(Boundary.EDGES, Call.point(0, 31, 3), -2);
    }
}
