/** Promises 1 to 6: a new object and the calls that change it. */
public final class ChangesTest {
    private static final int MIN = Make.MIN;
    private static final int MAX = Make.MAX;

    private ChangesTest() {
    }

    public static void main(String[] args) {
        newObject();
        put();
        putWhenFull();
        remove();
        clear();
        scatter();
        scatterWraps();
        scatterWhenFull();
        scatterRefused();
        move();
        objectsAreApart();
        Due.finish();
    }

    private static void newObject() {
        GridFileIndex x = new GridFileIndex();
        Due.points("new", x);
        Due.same("has(0, 0)", x.has(0, 0), 0);
        Due.same("valueAt(0, 0)", x.valueAt(0, 0), 0);
        Due.same("count(0, 1023)", x.count(0, 1023), 0);
        Due.same("nearest(0, 0)", x.nearest(0, 0), -2);
        Due.same("frontier()", x.frontier(), 0);
    }

    private static void put() {
        GridFileIndex x = new GridFileIndex();
        Due.same("put(4, 7, 9)", x.put(4, 7, 9), 1);
        Due.same("put(0, 0, MIN)", x.put(0, 0, MIN), 1);
        Due.same("put(31, 31, MAX)", x.put(31, 31, MAX), 1);
        Due.same("put(31, 0, -1)", x.put(31, 0, -1), 1);
        Due.same("put(0, 31, 0)", x.put(0, 31, 0), 1);
        int[] want = {0, MIN, 31, 0, 135, 9, 992, -1, 1023, MAX};
        Due.points("after puts", x, want);
        for (int bad : Make.BAD_COORDINATES) {
            Due.same("put(" + bad + ", 3, 1)", x.put(bad, 3, 1), -1);
            Due.same("put(3, " + bad + ", 1)", x.put(3, bad, 1), -1);
            Due.same("put(" + bad + ", " + bad + ", 1)", x.put(bad, bad, 1), -1);
        }
        Due.points("after refused puts", x, want);
        Due.same("put(4, 7, 0)", x.put(4, 7, 0), 0);
        Due.same("put(4, 7, 10)", x.put(4, 7, 10), 0);
        Due.points("after a changed value", x, 0, MIN, 31, 0, 135, 10, 992, -1, 1023, MAX);
    }

    private static void putWhenFull() {
        GridFileIndex x = Make.full();
        Due.same("put(31, 31, 1)", x.put(31, 31, 1), -2);
        Due.same("put(1, 8, 1)", x.put(1, 8, 1), -2);
        Due.same("put(32, 0, 1)", x.put(32, 0, 1), -1);
        Due.points("full", x, Make.fullPoints());
        Due.same("put(1, 7, 99)", x.put(1, 7, 99), 0);
        Due.same("valueAt(1, 7)", x.valueAt(1, 7), 99);
        Due.same("remove(0, 5)", x.remove(0, 5), 0);
        Due.same("put(31, 31, 1)", x.put(31, 31, 1), 1);
        Due.same("put(0, 5, 1)", x.put(0, 5, 1), -2);
        Due.same("size()", x.size(), 40);
    }

    private static void remove() {
        GridFileIndex x = Make.with(0, 0, 1, 5, 6, 2, 5, 7, 3, 31, 31, 4);
        int[] want = {0, 1, 166, 2, 167, 3, 1023, 4};
        for (int bad : Make.BAD_COORDINATES) {
            Due.same("remove(" + bad + ", 0)", x.remove(bad, 0), -1);
            Due.same("remove(0, " + bad + ")", x.remove(0, bad), -1);
        }
        Due.same("remove(6, 5)", x.remove(6, 5), -2);
        Due.points("after refused removes", x, want);
        Due.same("remove(5, 6)", x.remove(5, 6), 0);
        Due.same("remove(5, 6)", x.remove(5, 6), -2);
        Due.points("after a remove", x, 0, 1, 167, 3, 1023, 4);
        Due.same("remove(31, 31)", x.remove(31, 31), 0);
        Due.same("remove(0, 0)", x.remove(0, 0), 0);
        Due.points("after the ends went", x, 167, 3);
        Due.same("remove(5, 7)", x.remove(5, 7), 0);
        Due.points("emptied", x);
        Due.same("put(5, 6, 8)", x.put(5, 6, 8), 1);
        Due.points("filled again", x, 166, 8);
    }

    private static void clear() {
        GridFileIndex x = Make.with(2, 2, 1, 2, 6, 2, 4, 4, 3, 6, 2, 4, 6, 6, 5, 3, 9, 6);
        int[] want = {66, 1, 70, 2, 105, 6, 132, 3, 194, 4, 198, 5};
        for (int i = 0; i < Make.BAD_RECTANGLES.length; i += 2) {
            int low = Make.BAD_RECTANGLES[i];
            int high = Make.BAD_RECTANGLES[i + 1];
            Due.same("clear(" + low + ", " + high + ")", x.clear(low, high), -1);
        }
        Due.same("clear of an empty one", x.clear(Make.at(3, 3), Make.at(5, 3)), 0);
        Due.points("after clears of nothing", x, want);
        // (3, 9) has a number between the corners', but does not lie in the rectangle.
        Due.same("clear with its edges", x.clear(Make.at(2, 2), Make.at(6, 5)), 3);
        Due.points("after a clear", x, 70, 2, 105, 6, 198, 5);
        Due.same("clear of one place", x.clear(105, 105), 1);
        Due.same("clear of all", x.clear(0, 1023), 2);
        Due.points("cleared", x);
        GridFileIndex full = Make.full();
        Due.same("clear of 40", full.clear(0, 1023), 40);
        Due.same("put(9, 9, 9)", full.put(9, 9, 9), 1);
        Due.points("filled again", full, 297, 9);
    }

    private static void scatter() {
        GridFileIndex x = new GridFileIndex();
        Due.same("scatter", x.scatter(Make.at(3, 20), Make.walk(2, -3, 4), 50), 4);
        Due.points("scattered", x, 116, 50, 177, 51, 238, 52, 299, 53);
        Due.same("scatter over a point", x.scatter(Make.at(5, 16), Make.walk(0, 1, 2), -1), 5);
        Due.points("scattered over", x, 116, 50, 176, -1, 177, 0, 238, 52, 299, 53);
        Due.same("scatter of one", x.scatter(1023, Make.walk(31, 31, 1), 7), 6);
        Due.same("valueAt(31, 31)", x.valueAt(31, 31), 7);
        GridFileIndex still = new GridFileIndex();
        Due.same("scatter in place", still.scatter(Make.at(9, 9), Make.walk(0, 0, 40), 1), 1);
        Due.points("the last value stays", still, 297, 40);
    }

    private static void scatterWraps() {
        GridFileIndex x = new GridFileIndex();
        Due.same("scatter off the far ends", x.scatter(Make.at(31, 30), Make.walk(1, 1, 3), MAX - 1), 3);
        Due.points("wrapped up", x, Make.at(0, 31), MAX, Make.at(1, 0), MIN, Make.at(31, 30), MAX - 1);
        GridFileIndex y = new GridFileIndex();
        Due.same("scatter off the near ends", y.scatter(Make.at(0, 1), Make.walk(-1, -1, 3), -1), 3);
        Due.points("wrapped down", y, Make.at(0, 1), -1, Make.at(30, 31), 1, Make.at(31, 0), 0);
        GridFileIndex z = new GridFileIndex();
        Due.same("longest steps down", z.scatter(0, Make.walk(-31, -31, 40), 0), 32);
        Due.same("valueAt(7, 7)", z.valueAt(7, 7), 39);
        Due.same("valueAt(8, 8)", z.valueAt(8, 8), 8);
        GridFileIndex w = new GridFileIndex();
        Due.same("longest steps up", w.scatter(1023, Make.walk(31, 31, 40), 0), 32);
        Due.same("valueAt(24, 24)", w.valueAt(24, 24), 39);
        Due.same("valueAt(23, 23)", w.valueAt(23, 23), 8);
    }

    private static void scatterWhenFull() {
        GridFileIndex x = Make.full();
        Due.same("remove(0, 3)", x.remove(0, 3), 0);
        // Room for one: (2, 5) goes in, (3, 5) and later ones don't, but (0, 5) and (1, 5) are there and change.
        Due.same("scatter", x.scatter(Make.at(2, 5), Make.walk(1, 0, 32), 100), 40);
        Due.same("has(2, 5)", x.has(2, 5), 1);
        Due.same("has(3, 5)", x.has(3, 5), 0);
        Due.same("has(31, 5)", x.has(31, 5), 0);
        Due.same("valueAt(2, 5)", x.valueAt(2, 5), 100);
        Due.same("valueAt(0, 5)", x.valueAt(0, 5), 130);
        Due.same("valueAt(1, 5)", x.valueAt(1, 5), 131);
        GridFileIndex y = new GridFileIndex();
        Due.same("scatter of 40", y.scatter(0, Make.walk(4, 1, 40), 0), 32);
        Due.same("scatter of 40 more", y.scatter(1, Make.walk(4, 1, 40), 0), 40);
    }

    private static void scatterRefused() {
        GridFileIndex x = Make.with(1, 1, 1);
        for (int bad : Make.BAD_PLACES) {
            Due.same("scatter(" + bad + ", ..)", x.scatter(bad, Make.walk(0, 1, 3), 5), -1);
            Due.same("scatter(" + bad + ", 0, 5)", x.scatter(bad, 0, 5), -1);
        }
        int[] badWalks = {
            MIN, -4096, -64, -1, 0, 41, 63, MAX,
            Make.walk(0, 0, 0), Make.walk(0, 0, 41), Make.walk(0, 0, 63), Make.walk(31, 31, 41), Make.walk(-31, -31, 0),
            Make.walk(0, 32, 1), Make.walk(0, 32, 40), Make.walk(31, 32, 1), Make.walk(-31, 32, 1),
            Make.walk(32, 0, 1), Make.walk(32, -31, 1), Make.walk(-32, 0, 1), Make.walk(-32, 31, 40), Make.walk(100, 0, 1),
        };
        for (int bad : badWalks) {
            Due.same("scatter(0, " + bad + ", 5)", x.scatter(0, bad, 5), -2);
        }
        Due.points("after refused scatters", x, 33, 1);
        Due.same("the least walk", x.scatter(0, 1, 5), 2);
        Due.same("the greatest walk", x.scatter(0, Make.walk(31, 31, 40), 5), 32);
    }

    private static void move() {
        GridFileIndex x = Make.with(0, 0, 11, 3, 4, 12, 31, 31, 13);
        int[] want = {0, 11, 100, 12, 1023, 13};
        for (int bad : Make.BAD_PLACES) {
            Due.same("move(" + bad + ", 5)", x.move(bad, 5), -1);
            Due.same("move(0, " + bad + ")", x.move(0, bad), -1);
            Due.same("move(7, " + bad + ")", x.move(7, bad), -1);
        }
        Due.same("move(7, 8)", x.move(7, 8), -2);
        Due.same("move(7, 7)", x.move(7, 7), -2);
        Due.same("move(7, 0)", x.move(7, 0), -2);
        Due.same("move(0, 100)", x.move(0, 100), -3);
        Due.same("move(0, 0)", x.move(0, 0), -3);
        Due.points("after refused moves", x, want);
        Due.same("move(0, 500)", x.move(0, 500), 0);
        Due.points("moved up", x, 100, 12, 500, 11, 1023, 13);
        Due.same("move(1023, 0)", x.move(1023, 0), 0);
        Due.points("moved down", x, 0, 13, 100, 12, 500, 11);
        Due.same("move(100, 1023)", x.move(100, 1023), 0);
        Due.points("moved last", x, 0, 13, 500, 11, 1023, 12);
        GridFileIndex full = Make.full();
        Due.same("move while full", full.move(0, 1000), 0);
        Due.same("size()", full.size(), 40);
        Due.same("has(0, 0)", full.has(0, 0), 0);
        Due.same("has(31, 8)", full.has(31, 8), 1);
        Due.same("valueAt(31, 8)", full.valueAt(31, 8), 0);
    }

    private static void objectsAreApart() {
        GridFileIndex one = Make.with(1, 2, 3);
        GridFileIndex other = new GridFileIndex();
        Due.points("the other", other);
        Due.same("put(4, 5, 6)", other.put(4, 5, 6), 1);
        Due.points("the one", one, 34, 3);
    }
}
