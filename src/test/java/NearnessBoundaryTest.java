/** The boundary cases of promises 14 to 18, sentence by sentence. */
public final class NearnessBoundaryTest {
    private static final int MIN = Make.MIN;
    private static final int MAX = Make.MAX;
    private static final int[] NONE = Boundary.NONE;
    private static final int[] ONE = Boundary.ONE;
    private static final int[] FORTY = Boundary.FORTY;

    private static final int[][] CORNERS = {{0, 0}, {0, 31}, {31, 0}, {31, 31}};

    private NearnessBoundaryTest() {
    }

    public static void main(String[] args) {
        nearest();
        nearestAmongEqual();
        nearestRefused();
        within();
        withinRefused();
        closest();
        closestOfFew();
        line();
        lineRefused();
        frontier();
        dominates();
        Due.finish();
    }

    /** Points with the value 1 at these places, given in rising order. */
    private static int[] at(int... places) {
        int[] points = new int[2 * places.length];
        for (int i = 0; i < places.length; i++) {
            points[2 * i] = places[i];
            points[2 * i + 1] = 1;
        }
        return points;
    }

    private static void nearest() {
        Due.sentence("Promise 14", "The point, as one number, whose distance from (x, y) is least");
        for (int[] p : CORNERS) {
            int place = Make.at(p[0], p[1]);
            Boundary.stays(at(0, 31, 992, 1023), Call.nearest(p[0], p[1]), place);
            Boundary.stays(at(place), Call.nearest(31 - p[0], 31 - p[1]), place);
            Boundary.stays(at(place), Call.nearest(p[0], p[1]), place);
            Boundary.stays(ONE, Call.nearest(p[0], p[1]), ONE[0]);
        }
        for (int i = 0; i < 80; i += 2) {
            Boundary.stays(FORTY, Call.nearest(FORTY[i] / 32, FORTY[i] % 32), FORTY[i]);
        }
        // 32 against 36 by squares, 8 against 6 by the differences alone.
        Boundary.stays(at(Make.at(0, 6), Make.at(4, 4)), Call.nearest(0, 0), Make.at(4, 4));
        Boundary.stays(at(Make.at(4, 4), Make.at(6, 0)), Call.nearest(0, 0), Make.at(4, 4));
        // The places' numbers are next to each other, the places are not.
        Boundary.stays(at(Make.at(0, 0), Make.at(1, 31)), Call.nearest(2, 0), Make.at(0, 0));
    }

    private static void nearestAmongEqual() {
        Due.sentence("Promise 14", "and among those the one with the least number");
        int[] around = at(Make.at(8, 10), Make.at(10, 8), Make.at(10, 12), Make.at(12, 10));
        Boundary.stays(around, Call.nearest(10, 10), Make.at(8, 10));
        Boundary.stays(Boundary.without(around, Make.at(8, 10)), Call.nearest(10, 10), Make.at(10, 8));
        Boundary.stays(at(Make.at(10, 12), Make.at(12, 10)), Call.nearest(10, 10), Make.at(10, 12));
        Boundary.stays(at(Make.at(0, 5), Make.at(3, 4), Make.at(5, 0)), Call.nearest(0, 0), Make.at(0, 5));
        Boundary.stays(at(0, 31, 992, 1023), Call.nearest(15, 15), 0);
        Boundary.stays(at(0, 992), Call.nearest(15, 31), 0);
        Boundary.stays(at(0, 2), Call.nearest(0, 1), 0);
        GridFileIndex x = Make.with(12, 10, 1, 10, 12, 1, 10, 8, 1, 8, 10, 1);
        Due.same("nearest(10, 10), the least number put in last", x.nearest(10, 10), Make.at(8, 10));
        GridFileIndex y = Make.with(8, 10, 1, 10, 8, 1, 10, 12, 1, 12, 10, 1);
        Due.same("nearest(10, 10), the least number put in first", y.nearest(10, 10), Make.at(8, 10));
    }

    private static void nearestRefused() {
        Due.sentence("Promise 14", "-1 if (x, y) is not good");
        for (int[] p : Boundary.BAD_PAIRS) {
            Boundary.staysInAll(Call.nearest(p[0], p[1]), -1);
        }
        Due.sentence("Promise 14", "-2 if there are no points");
        for (int[] p : CORNERS) {
            Boundary.stays(NONE, Call.nearest(p[0], p[1]), -2);
        }
        GridFileIndex x = Boundary.holding(ONE);
        x.remove(16, 5);
        Due.same("nearest(16, 5) after the last point went", x.nearest(16, 5), -2);
    }

    private static void within() {
        Due.sentence("Promise 15", "How many points have a distance of at most reach (any int) from (x, y)");
        int[] points = at(Make.at(0, 0), Make.at(0, 5), Make.at(3, 4), Make.at(5, 1), Make.at(31, 31));
        int[] reachAndCount = {
            MIN, 0, MIN + 1, 0, -25, 0, -1, 0, 0, 1, 1, 1, 24, 1, 25, 3, 26, 4, 27, 4, 1921, 4, 1922, 5, 1923, 5,
            MAX - 1, 5, MAX, 5,
        };
        for (int i = 0; i < reachAndCount.length; i += 2) {
            Boundary.stays(points, Call.within(0, 0, reachAndCount[i]), reachAndCount[i + 1]);
        }
        for (int[] p : CORNERS) {
            Boundary.stays(NONE, Call.within(p[0], p[1], MAX), 0);
            Boundary.stays(FORTY, Call.within(p[0], p[1], MAX), 40);
            Boundary.stays(FORTY, Call.within(p[0], p[1], 1922), 40);
            Boundary.stays(FORTY, Call.within(p[0], p[1], -1), 0);
            Boundary.stays(FORTY, Call.within(p[0], p[1], MIN), 0);
        }
        Boundary.stays(ONE, Call.within(16, 5, 0), 1);
        Boundary.stays(ONE, Call.within(16, 5, -1), 0);
        Boundary.stays(ONE, Call.within(15, 4, 1), 0);
        Boundary.stays(ONE, Call.within(15, 4, 2), 1);
    }

    private static void withinRefused() {
        Due.sentence("Promise 15", "-1 if (x, y) is not good");
        for (int[] p : Boundary.BAD_PAIRS) {
            for (int reach : new int[] {MIN, -1, 0, MAX}) {
                Boundary.staysInAll(Call.within(p[0], p[1], reach), -1);
            }
        }
    }

    private static void closest() {
        Due.sentence("Promise 16", "The least distance of two different points");
        Boundary.stays(at(0, 1), Call.closest(), 1);
        Boundary.stays(at(0, 32), Call.closest(), 1);
        Boundary.stays(at(0, 33), Call.closest(), 2);
        Boundary.stays(at(1, 32), Call.closest(), 2);
        Boundary.stays(at(31, 32), Call.closest(), 962);
        Boundary.stays(at(0, 1023), Call.closest(), 1922);
        Boundary.stays(at(31, 992), Call.closest(), 1922);
        Boundary.stays(at(0, 31, 992, 1023), Call.closest(), 961);
        // The closest two are the first two, the last two, or far from each other by their numbers.
        Boundary.stays(at(0, 2, 500, 1023), Call.closest(), 4);
        Boundary.stays(at(0, 500, 1021, 1023), Call.closest(), 4);
        Boundary.stays(at(Make.at(4, 4), Make.at(4, 31), Make.at(5, 20), Make.at(6, 4)), Call.closest(), 4);
        Boundary.stays(Make.fullPoints(), Call.closest(), 1);
    }

    private static void closestOfFew() {
        Due.sentence("Promise 16", "-1 if there are fewer than two points");
        Boundary.stays(NONE, Call.closest(), -1);
        Boundary.stays(ONE, Call.closest(), -1);
        Boundary.stays(at(0), Call.closest(), -1);
        Boundary.stays(at(1023), Call.closest(), -1);
        GridFileIndex x = Boundary.holding(0, 1, 1023, 1);
        x.remove(0, 0);
        Due.same("closest() after one of two went", x.closest(), -1);
        x.put(31, 31, 2);
        Due.same("closest() after one was put in again", x.closest(), -1);
        x.remove(31, 31);
        Due.same("closest() after both went", x.closest(), -1);
    }

    private static void line() {
        Due.sentence("Promise 17", "How many points are there in column x (axis 0)");
        for (int[] p : CORNERS) {
            Boundary.stays(NONE, Call.line(0, p[0]), 0);
            Boundary.stays(at(0, 31, 992, 1023), Call.line(0, p[0]), 2);
            Boundary.stays(at(Make.at(p[0], p[1])), Call.line(0, p[0]), 1);
            Boundary.stays(at(Make.at(p[0], p[1])), Call.line(0, 31 - p[0]), 0);
        }
        Boundary.stays(ONE, Call.line(0, 16), 1);
        Boundary.stays(ONE, Call.line(0, 15), 0);
        Boundary.stays(ONE, Call.line(0, 17), 0);
        Boundary.stays(ONE, Call.line(0, 5), 0);
        Boundary.stays(Make.fullPoints(), Call.line(0, 0), 32);
        Boundary.stays(Make.fullPoints(), Call.line(0, 1), 8);
        Due.sentence("Promise 17", "or in row x (axis 1, the places with y = x)");
        for (int[] p : CORNERS) {
            Boundary.stays(NONE, Call.line(1, p[1]), 0);
            Boundary.stays(at(0, 31, 992, 1023), Call.line(1, p[1]), 2);
            Boundary.stays(at(Make.at(p[0], p[1])), Call.line(1, p[1]), 1);
            Boundary.stays(at(Make.at(p[0], p[1])), Call.line(1, 31 - p[1]), 0);
        }
        Boundary.stays(ONE, Call.line(1, 5), 1);
        Boundary.stays(ONE, Call.line(1, 4), 0);
        Boundary.stays(ONE, Call.line(1, 6), 0);
        Boundary.stays(ONE, Call.line(1, 16), 0);
        int[] row = new int[32];
        for (int x = 0; x < 32; x++) {
            row[x] = Make.at(x, 31);
        }
        Boundary.stays(at(row), Call.line(1, 31), 32);
        Boundary.stays(at(row), Call.line(1, 30), 0);
        Boundary.stays(at(row), Call.line(0, 31), 1);
    }

    private static void lineRefused() {
        Due.sentence("Promise 17", "-1 if axis is not 0 or 1");
        for (int axis : new int[] {-1, 2, 3, MIN, MIN + 1, MAX}) {
            for (int x : new int[] {0, 5, 31, -1, 32}) {
                Boundary.staysInAll(Call.line(axis, x), -1);
            }
        }
        Due.sentence("Promise 17", "-2 if x is not in 0 .. 31");
        for (int x : new int[] {-1, 32, -32, 64, 1023, MIN, MAX}) {
            Boundary.staysInAll(Call.line(0, x), -2);
            Boundary.staysInAll(Call.line(1, x), -2);
        }
    }

    private static void frontier() {
        Due.sentence("Promise 18", "How many points there are that no other point DOMINATES");
        Boundary.stays(NONE, Call.frontier(), 0);
        Boundary.stays(ONE, Call.frontier(), 1);
        Boundary.stays(at(0), Call.frontier(), 1);
        Boundary.stays(at(1023), Call.frontier(), 1);
        Boundary.stays(at(0, 31, 992, 1023), Call.frontier(), 1);
        Boundary.stays(at(0, 31, 992), Call.frontier(), 2);
        Boundary.stays(FORTY, Call.frontier(), 1);
        Boundary.stays(Make.fullPoints(), Call.frontier(), 2);
        int[] falling = new int[32];
        int[] rising = new int[32];
        for (int x = 0; x < 32; x++) {
            falling[x] = Make.at(x, 31 - x);
            rising[x] = Make.at(x, x);
        }
        Boundary.stays(at(falling), Call.frontier(), 32);
        Boundary.stays(at(rising), Call.frontier(), 1);
        Boundary.stays(Boundary.with(at(falling), 1023, 1), Call.frontier(), 1);
        Boundary.stays(Boundary.with(at(falling), 0, 1), Call.frontier(), 32);
    }

    private static void dominates() {
        Due.sentence("Promise 18", "a point (x2, y2) dominates (x1, y1) if x2 >= x1, y2 >= y1 and they differ");
        int middle = Make.at(10, 10);
        for (int x = 9; x <= 11; x++) {
            for (int y = 9; y <= 11; y++) {
                int other = Make.at(x, y);
                boolean apart = (x - 10) * (y - 10) < 0;
                int[] points = Boundary.with(at(middle), other, 1);
                Boundary.stays(points, Call.frontier(), apart ? 2 : 1);
            }
        }
        // The greater dominates the less, not the other way round.
        Boundary.stays(at(Make.at(0, 0), Make.at(0, 1), Make.at(1, 0)), Call.frontier(), 2);
        Boundary.stays(at(Make.at(0, 1), Make.at(1, 0), Make.at(1, 1)), Call.frontier(), 1);
        // The values play no part.
        Boundary.stays(new int[] {0, MAX, 33, MIN}, Call.frontier(), 1);
        Boundary.stays(new int[] {1, MAX, 32, MIN}, Call.frontier(), 2);
    }
}
