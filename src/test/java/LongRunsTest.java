/** Long runs of mixed calls, each answer compared with that of a plain plane; the same runs every time. */
public final class LongRunsTest {
    private static final int RUNS = 400;
    // With the look at all points at its end, a run stays within the document's 512 calls.
    private static final int CALLS = 400;
    private static final int[] EDGES = {Make.MIN, -1024, -33, -32, -1, 0, 1, 30, 31, 32, 33, 40, 41, 992, 1022, 1023, 1024, Make.MAX};

    private static long state = 20261115L;
    private static GridFileIndex real;
    private static PlainPlane plain;

    private LongRunsTest() {
    }

    public static void main(String[] args) {
        for (int run = 0; run < RUNS; run++) {
            real = new GridFileIndex();
            plain = new PlainPlane();
            // Some runs stay near empty and some near full, where the edges are.
            int takingOut = run % 4;
            for (int call = 0; call < CALLS; call++) {
                String where = "run " + run + ", call " + call + ": ";
                if (below(10) < 4) {
                    change(where, takingOut);
                } else {
                    ask(where);
                }
            }
            compareAllPoints("run " + run + ", end: ");
        }
        Due.finish();
    }

    private static int below(int bound) {
        state = state * 6364136223846793005L + 1442695040888963407L;
        return (int) ((state >>> 33) % bound);
    }

    private static int edge() {
        return EDGES[below(EDGES.length)];
    }

    private static int coordinate() {
        return below(20) == 0 ? edge() : below(32);
    }

    /** Half the time a place that has a point, if there is one. */
    private static int place() {
        if (below(20) == 0) {
            return edge();
        }
        int size = plain.size();
        return size > 0 && below(2) == 0 ? plain.point(0, 1023, below(size)) : below(1024);
    }

    private static int value() {
        return below(8) == 0 ? edge() : below(2001) - 1000;
    }

    private static int walk() {
        if (below(6) == 0) {
            return below(2) == 0 ? edge() : below(64 * 4096);
        }
        return Make.walk(below(63) - 31, below(63) - 31, 1 + below(40));
    }

    private static void change(String where, int takingOut) {
        int kind = below(5 + 2 * takingOut);
        int p = place();
        int q = place();
        int v = value();
        int w = walk();
        switch (kind) {
            case 0 -> Due.same(where + "scatter(" + p + ", " + w + ", " + v + ")", real.scatter(p, w, v), plain.scatter(p, w, v));
            case 1 -> Due.same(where + "move(" + p + ", " + q + ")", real.move(p, q), plain.move(p, q));
            case 2, 3 -> put(where, p, v);
            case 4, 5, 6, 7 -> remove(where, p);
            default -> clear(where);
        }
    }

    private static void put(String where, int p, int v) {
        int x = below(20) == 0 ? edge() : p >> 5;
        int y = below(20) == 0 ? edge() : p & 31;
        Due.same(where + "put(" + x + ", " + y + ", " + v + ")", real.put(x, y, v), plain.put(x, y, v));
    }

    private static void remove(String where, int p) {
        int x = below(20) == 0 ? edge() : p >> 5;
        int y = below(20) == 0 ? edge() : p & 31;
        Due.same(where + "remove(" + x + ", " + y + ")", real.remove(x, y), plain.remove(x, y));
    }

    private static void clear(String where) {
        int low = below(10) == 0 ? place() : Make.at(below(32), below(32));
        int high = below(10) == 0 ? place() : Make.at(Math.min(31, low / 32 + below(20)), Math.min(31, low % 32 + below(20)));
        Due.same(where + "clear(" + low + ", " + high + ")", real.clear(low, high), plain.clear(low, high));
    }

    private static void ask(String where) {
        switch (below(3)) {
            case 0 -> askPlace(where);
            case 1 -> askRectangle(where);
            default -> askAll(where);
        }
    }

    private static void askPlace(String where) {
        int p = place();
        int x = below(2) == 0 ? coordinate() : p >> 5;
        int y = below(2) == 0 ? coordinate() : p & 31;
        int reach = below(8) == 0 ? edge() : below(2000);
        String at = "(" + x + ", " + y + ")";
        switch (below(4)) {
            case 0 -> Due.same(where + "has" + at, real.has(x, y), plain.has(x, y));
            case 1 -> Due.same(where + "valueAt" + at, real.valueAt(x, y), plain.valueAt(x, y));
            case 2 -> Due.same(where + "nearest" + at, real.nearest(x, y), plain.nearest(x, y));
            default -> Due.same(where + "within" + at + " " + reach, real.within(x, y, reach), plain.within(x, y, reach));
        }
    }

    private static void askRectangle(String where) {
        int low = place();
        int high = place();
        if (below(4) != 0) {
            low = Make.at(below(20), below(20));
            high = Make.at(low / 32 + below(12), low % 32 + below(12));
        }
        int i = below(4) == 0 ? edge() : below(12);
        String at = "(" + low + ", " + high + ")";
        switch (below(4)) {
            case 0 -> Due.same(where + "count" + at, real.count(low, high), plain.count(low, high));
            case 1 -> Due.same(where + "sum" + at, real.sum(low, high), plain.sum(low, high));
            case 2 -> Due.same(where + "most" + at, real.most(low, high), plain.most(low, high));
            default -> Due.same(where + "point" + at + " " + i, real.point(low, high, i), plain.point(low, high, i));
        }
    }

    private static void askAll(String where) {
        int axis = below(10) == 0 ? edge() : below(2);
        int x = coordinate();
        switch (below(4)) {
            case 0 -> Due.same(where + "size()", real.size(), plain.size());
            case 1 -> Due.same(where + "closest()", real.closest(), plain.closest());
            case 2 -> Due.same(where + "frontier()", real.frontier(), plain.frontier());
            default -> Due.same(where + "line(" + axis + ", " + x + ")", real.line(axis, x), plain.line(axis, x));
        }
    }

    private static void compareAllPoints(String where) {
        int size = plain.size();
        int[] want = new int[2 * size];
        for (int i = 0; i < size; i++) {
            int p = plain.point(0, 1023, i);
            want[2 * i] = p;
            want[2 * i + 1] = plain.valueAt(p / 32, p % 32);
        }
        Due.points(where, real, want);
    }
}
