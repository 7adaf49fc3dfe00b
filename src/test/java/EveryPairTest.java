/** What two places can be to each other, for every pair of places: rectangles, distances, moves, dominance. */
public final class EveryPairTest {
    private EveryPairTest() {
    }

    public static void main(String[] args) {
        for (int p = 0; p < 1024; p++) {
            onePlace(p);
            for (int q = 0; q < 1024; q++) {
                rectangle(p, q);
                onePoint(p, q);
                twoPoints(p, q);
            }
        }
        Due.finish();
    }

    private static void same(String call, int p, int q, int got, int want) {
        // The text is made for a wrong answer alone: there are millions of right ones.
        if (got != want) {
            Due.same(call + " with p = " + p + ", q = " + q, got, want);
        }
    }

    /** One point at p: what lines through it, and calls at its own place, answer. */
    private static void onePlace(int p) {
        int x = p / 32;
        int y = p % 32;
        GridFileIndex index = new GridFileIndex();
        same("put at p", p, p, index.put(x, y, p), 1);
        for (int c = 0; c < 32; c++) {
            same("line(0, " + c + ")", p, p, index.line(0, c), c == x ? 1 : 0);
            same("line(1, " + c + ")", p, p, index.line(1, c), c == y ? 1 : 0);
        }
        same("frontier()", p, p, index.frontier(), 1);
        same("closest()", p, p, index.closest(), -1);
        same("move(p, p)", p, p, index.move(p, p), -3);
        same("remove at p", p, p, index.remove(x, y), 0);
        same("remove at p again", p, p, index.remove(x, y), -2);
    }

    /** The corners p and q, with a point at each of them. */
    private static void rectangle(int p, int q) {
        boolean good = p / 32 <= q / 32 && p % 32 <= q % 32;
        int points = p == q ? 1 : 2;
        GridFileIndex index = new GridFileIndex();
        index.put(q / 32, q % 32, 50);
        index.put(p / 32, p % 32, 3);
        same("count(p, q)", p, q, index.count(p, q), good ? points : -1);
        same("sum(p, q)", p, q, index.sum(p, q), !good ? 0 : p == q ? 3 : 53);
        same("most(p, q)", p, q, index.most(p, q), !good ? Make.MIN : p == q ? 3 : 50);
        same("point(p, q, 0)", p, q, index.point(p, q, 0), good ? p : -1);
        same("point(p, q, 1)", p, q, index.point(p, q, 1), !good ? -1 : p == q ? -2 : q);
        same("clear(p, q)", p, q, index.clear(p, q), good ? points : -1);
        same("size() after clear(p, q)", p, q, index.size(), good ? 0 : points);
    }

    /** A point at p alone, looked at from q and moved there. */
    private static void onePoint(int p, int q) {
        int x = q / 32;
        int y = q % 32;
        int distance = distance(p, q);
        GridFileIndex index = new GridFileIndex();
        index.put(p / 32, p % 32, 7);
        same("has at q", p, q, index.has(x, y), p == q ? 1 : 0);
        same("valueAt q", p, q, index.valueAt(x, y), p == q ? 7 : 0);
        same("nearest to q", p, q, index.nearest(x, y), p);
        same("within the distance of q", p, q, index.within(x, y, distance), 1);
        same("within less than the distance of q", p, q, index.within(x, y, distance - 1), 0);
        same("count(q, q)", p, q, index.count(q, q), p == q ? 1 : 0);
        same("count of the column of q", p, q, index.count(32 * x, 32 * x + 31), p / 32 == x ? 1 : 0);
        same("count of the row of q", p, q, index.count(y, 992 + y), p % 32 == y ? 1 : 0);
        same("move(p, q)", p, q, index.move(p, q), p == q ? -3 : 0);
        same("valueAt q, moved", p, q, index.valueAt(x, y), 7);
        same("has at p, moved", p, q, index.has(p / 32, p % 32), p == q ? 1 : 0);
    }

    private static void twoPoints(int p, int q) {
        if (p == q) {
            return;
        }
        boolean above = p / 32 >= q / 32 && p % 32 >= q % 32;
        boolean below = p / 32 <= q / 32 && p % 32 <= q % 32;
        GridFileIndex index = new GridFileIndex();
        index.put(p / 32, p % 32, 1);
        index.put(q / 32, q % 32, 2);
        same("closest()", p, q, index.closest(), distance(p, q));
        same("frontier()", p, q, index.frontier(), above || below ? 1 : 2);
        same("nearest to q", p, q, index.nearest(q / 32, q % 32), q);
        same("point(0, 1023, 0)", p, q, index.point(0, 1023, 0), Math.min(p, q));
        same("point(0, 1023, 1)", p, q, index.point(0, 1023, 1), Math.max(p, q));
        same("move(p, q)", p, q, index.move(p, q), -3);
        same("valueAt q", p, q, index.valueAt(q / 32, q % 32), 2);
    }

    private static int distance(int p, int q) {
        int dx = p / 32 - q / 32;
        int dy = p % 32 - q % 32;
        return dx * dx + dy * dy;
    }
}
