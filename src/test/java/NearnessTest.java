/** Promises 14 to 18: nearest, within, closest, line and frontier. */
public final class NearnessTest {
    private static final int MIN = Make.MIN;
    private static final int MAX = Make.MAX;

    private NearnessTest() {
    }

    public static void main(String[] args) {
        nearest();
        nearestAmongEqual();
        within();
        closest();
        line();
        frontier();
        Due.finish();
    }

    private static void nearest() {
        GridFileIndex none = new GridFileIndex();
        GridFileIndex x = Make.with(0, 0, 1, 31, 31, 1, 10, 20, 1);
        for (int bad : Make.BAD_COORDINATES) {
            Due.same("nearest(" + bad + ", 0)", x.nearest(bad, 0), -1);
            Due.same("nearest(0, " + bad + ")", x.nearest(0, bad), -1);
            Due.same("nearest(" + bad + ", 0) without points", none.nearest(bad, 0), -1);
        }
        Due.same("nearest without points", none.nearest(0, 31), -2);
        Due.same("nearest(0, 0)", x.nearest(0, 0), 0);
        Due.same("nearest(31, 31)", x.nearest(31, 31), 1023);
        Due.same("nearest(10, 20)", x.nearest(10, 20), 340);
        Due.same("nearest(31, 0)", x.nearest(31, 0), 340);
        Due.same("nearest(8, 9)", x.nearest(8, 9), 340);
        Due.same("nearest(8, 8)", x.nearest(8, 8), 0);
        GridFileIndex far = Make.with(31, 31, 0);
        Due.same("nearest from the farthest place", far.nearest(0, 0), 1023);
        // By squares (4, 4) with 32 is nearer than (0, 6) with 36; by the sum of the differences it would not be.
        GridFileIndex round = Make.with(0, 6, 1, 4, 4, 1);
        Due.same("nearest by squares", round.nearest(0, 0), Make.at(4, 4));
    }

    private static void nearestAmongEqual() {
        GridFileIndex x = Make.with(12, 10, 1, 10, 12, 1, 10, 8, 1, 8, 10, 1);
        Due.same("nearest of four", x.nearest(10, 10), Make.at(8, 10));
        x.remove(8, 10);
        Due.same("nearest of three", x.nearest(10, 10), Make.at(10, 8));
        x.remove(10, 8);
        Due.same("nearest of two", x.nearest(10, 10), Make.at(10, 12));
        GridFileIndex y = Make.with(5, 5, 1, 0, 7, 1, 0, 0, 1, 3, 4, 1);
        Due.same("3, 4 and 0, 5 are as far", y.nearest(0, 2), Make.at(0, 0));
        GridFileIndex z = Make.with(3, 4, 1, 5, 0, 1, 0, 5, 1);
        Due.same("nearest on one circle", z.nearest(0, 0), Make.at(0, 5));
    }

    private static void within() {
        GridFileIndex x = Make.with(0, 0, 1, 3, 4, 1, 0, 5, 1, 5, 1, 1, 31, 31, 1);
        for (int bad : Make.BAD_COORDINATES) {
            Due.same("within(" + bad + ", 0, 9)", x.within(bad, 0, 9), -1);
            Due.same("within(0, " + bad + ", 9)", x.within(0, bad, 9), -1);
            Due.same("within(0, " + bad + ", -1)", x.within(0, bad, -1), -1);
        }
        int[] reachAndCount = {MIN, 0, -1, 0, 0, 1, 1, 1, 24, 1, 25, 3, 26, 4, 1921, 4, 1922, 5, MAX, 5};
        for (int i = 0; i < reachAndCount.length; i += 2) {
            int reach = reachAndCount[i];
            Due.same("within(0, 0, " + reach + ")", x.within(0, 0, reach), reachAndCount[i + 1]);
        }
        Due.same("within without a point there", x.within(3, 3, 0), 0);
        Due.same("within(3, 4, 0)", x.within(3, 4, 0), 1);
        Due.same("within(2, 5, 4)", x.within(2, 5, 4), 2);
        Due.same("within(2, 5, 3)", x.within(2, 5, 3), 1);
        Due.same("within(31, 0, 961)", x.within(31, 0, 961), 4);
        Due.same("within(31, 0, 960)", x.within(31, 0, 960), 2);
        Due.same("within without points", new GridFileIndex().within(0, 0, MAX), 0);
        Due.same("within of 40", Make.full().within(15, 15, MAX), 40);
    }

    private static void closest() {
        GridFileIndex x = new GridFileIndex();
        Due.same("closest of none", x.closest(), -1);
        x.put(0, 0, 1);
        Due.same("closest of one", x.closest(), -1);
        x.put(0, 0, 2);
        Due.same("closest of one put twice", x.closest(), -1);
        x.put(31, 31, 1);
        Due.same("closest of the farthest", x.closest(), 1922);
        x.put(31, 0, 1);
        Due.same("closest of three corners", x.closest(), 961);
        x.put(16, 20, 1);
        Due.same("closest to the middle", x.closest(), 346);
        x.put(30, 29, 1);
        Due.same("closest by both differences", x.closest(), 5);
        x.put(1, 31, 1);
        // (1, 31) and (2, 0) follow each other as numbers, but lie far apart.
        x.put(2, 0, 1);
        Due.same("closest is not by numbers", x.closest(), 4);
        x.put(3, 1, 1);
        Due.same("closest aslant", x.closest(), 2);
        x.put(16, 21, 1);
        Due.same("closest side by side", x.closest(), 1);
        x.remove(16, 20);
        Due.same("closest after a remove", x.closest(), 2);
    }

    private static void line() {
        GridFileIndex x = Make.with(0, 0, 1, 0, 5, 1, 0, 31, 1, 7, 5, 1, 31, 31, 1, 5, 0, 1);
        for (int bad : new int[] {MIN, -1, 2, 3, MAX}) {
            Due.same("line(" + bad + ", 0)", x.line(bad, 0), -1);
            Due.same("line(" + bad + ", 32)", x.line(bad, 32), -1);
        }
        for (int bad : Make.BAD_COORDINATES) {
            Due.same("line(0, " + bad + ")", x.line(0, bad), -2);
            Due.same("line(1, " + bad + ")", x.line(1, bad), -2);
        }
        int[] columns = new int[32];
        columns[0] = 3;
        columns[5] = 1;
        columns[7] = 1;
        columns[31] = 1;
        int[] rows = new int[32];
        rows[0] = 2;
        rows[5] = 2;
        rows[31] = 2;
        for (int i = 0; i < 32; i++) {
            Due.same("line(0, " + i + ")", x.line(0, i), columns[i]);
            Due.same("line(1, " + i + ")", x.line(1, i), rows[i]);
        }
        Due.same("a whole column", Make.full().line(0, 0), 32);
        Due.same("a row of two", Make.full().line(1, 7), 2);
        Due.same("a row of one", Make.full().line(1, 8), 1);
    }

    private static void frontier() {
        GridFileIndex x = new GridFileIndex();
        Due.same("frontier of none", x.frontier(), 0);
        x.put(4, 4, 9);
        Due.same("frontier of one", x.frontier(), 1);
        x.put(4, 6, 1);
        Due.same("frontier with the same x", x.frontier(), 1);
        x.put(6, 4, 1);
        Due.same("frontier of two", x.frontier(), 2);
        x.put(8, 4, 1);
        Due.same("frontier with the same y", x.frontier(), 2);
        x.put(6, 5, 1);
        Due.same("frontier of three", x.frontier(), 3);
        x.put(7, 7, 1);
        Due.same("frontier with a dominating point", x.frontier(), 2);
        x.put(31, 31, 1);
        Due.same("frontier with the last place", x.frontier(), 1);
        x.clear(Make.at(7, 7), 1023);
        Due.same("frontier after a clear", x.frontier(), 3);
        GridFileIndex falling = new GridFileIndex();
        falling.scatter(31, Make.walk(1, -1, 32), 0);
        Due.same("frontier of a falling line", falling.frontier(), 32);
        GridFileIndex rising = new GridFileIndex();
        rising.scatter(0, Make.walk(1, 1, 32), 0);
        Due.same("frontier of a rising line", rising.frontier(), 1);
        Due.same("frontier when full", Make.full().frontier(), 2);
    }
}
