/** Promises 7 to 13: size, single places and rectangles. */
public final class QuestionsTest {
    private static final int MIN = Make.MIN;
    private static final int MAX = Make.MAX;

    private QuestionsTest() {
    }

    public static void main(String[] args) {
        size();
        hasAndValueAt();
        badRectangles();
        rectangles();
        sumWraps();
        mostOfSmallValues();
        pointsInOrder();
        questionsChangeNothing();
        Due.finish();
    }

    private static void size() {
        GridFileIndex x = new GridFileIndex();
        Due.same("size()", x.size(), 0);
        x.put(3, 3, 0);
        Due.same("size()", x.size(), 1);
        x.put(3, 3, 1);
        Due.same("size() after a changed value", x.size(), 1);
        x.put(-1, 3, 1);
        Due.same("size() after a refused put", x.size(), 1);
        x.remove(3, 3);
        Due.same("size() after a remove", x.size(), 0);
        Due.same("size() when full", Make.full().size(), 40);
    }

    private static void hasAndValueAt() {
        GridFileIndex x = Make.with(0, 0, -5, 1, 0, MIN, 0, 31, MAX, 31, 31, 0, 31, 30, 8);
        for (int bad : Make.BAD_COORDINATES) {
            Due.same("has(" + bad + ", 0)", x.has(bad, 0), -1);
            Due.same("has(0, " + bad + ")", x.has(0, bad), -1);
            Due.same("valueAt(" + bad + ", 0)", x.valueAt(bad, 0), 0);
            Due.same("valueAt(0, " + bad + ")", x.valueAt(0, bad), 0);
        }
        Due.same("has(0, 0)", x.has(0, 0), 1);
        Due.same("has(31, 31)", x.has(31, 31), 1);
        Due.same("has(0, 1)", x.has(0, 1), 0);
        Due.same("has(31, 0)", x.has(31, 0), 0);
        Due.same("valueAt(0, 0)", x.valueAt(0, 0), -5);
        Due.same("valueAt(1, 0)", x.valueAt(1, 0), MIN);
        Due.same("valueAt(0, 31)", x.valueAt(0, 31), MAX);
        Due.same("valueAt(31, 31)", x.valueAt(31, 31), 0);
        Due.same("valueAt(31, 30)", x.valueAt(31, 30), 8);
        Due.same("valueAt(0, 1)", x.valueAt(0, 1), 0);
        x.remove(31, 30);
        Due.same("valueAt of a removed point", x.valueAt(31, 30), 0);
        Due.same("has of a removed point", x.has(31, 30), 0);
    }

    private static void badRectangles() {
        GridFileIndex x = Make.full();
        for (int i = 0; i < Make.BAD_RECTANGLES.length; i += 2) {
            int low = Make.BAD_RECTANGLES[i];
            int high = Make.BAD_RECTANGLES[i + 1];
            String corners = "(" + low + ", " + high + ")";
            Due.same("count" + corners, x.count(low, high), -1);
            Due.same("sum" + corners, x.sum(low, high), 0);
            Due.same("most" + corners, x.most(low, high), MIN);
            Due.same("point" + corners + " 0", x.point(low, high, 0), -1);
            Due.same("point" + corners + " -1", x.point(low, high, -1), -1);
            Due.same("point" + corners + " 40", x.point(low, high, 40), -1);
        }
    }

    private static void rectangle(GridFileIndex x, int low, int high, int count, int sum, int most) {
        String corners = "(" + low + ", " + high + ")";
        Due.same("count" + corners, x.count(low, high), count);
        Due.same("sum" + corners, x.sum(low, high), sum);
        Due.same("most" + corners, x.most(low, high), most);
    }

    private static void rectangles() {
        GridFileIndex x = Make.with(2, 2, 1, 2, 6, 20, 4, 4, 300, 6, 2, 4000, 6, 6, 50000, 0, 0, -7, 31, 31, -9);
        rectangle(x, 0, 1023, 7, 54305, 50000);
        rectangle(x, Make.at(2, 2), Make.at(6, 6), 5, 54321, 50000);
        rectangle(x, Make.at(3, 2), Make.at(6, 6), 3, 54300, 50000);
        rectangle(x, Make.at(2, 3), Make.at(6, 6), 3, 50320, 50000);
        rectangle(x, Make.at(2, 2), Make.at(5, 6), 3, 321, 300);
        rectangle(x, Make.at(2, 2), Make.at(6, 5), 3, 4301, 4000);
        rectangle(x, Make.at(4, 4), Make.at(4, 4), 1, 300, 300);
        rectangle(x, Make.at(4, 5), Make.at(4, 5), 0, 0, MIN);
        rectangle(x, 0, 0, 1, -7, -7);
        rectangle(x, 1023, 1023, 1, -9, -9);
        rectangle(x, 0, 31, 1, -7, -7);
        rectangle(x, Make.at(0, 2), Make.at(31, 2), 2, 4001, 4000);
        rectangle(x, Make.at(7, 7), Make.at(31, 30), 0, 0, MIN);
        rectangle(new GridFileIndex(), 0, 1023, 0, 0, MIN);
        x.put(31, 30, 70000);
        x.put(31, 31, 80000);
        x.remove(31, 31);
        rectangle(x, 0, 1023, 7, 124314, 70000);
        x.clear(Make.at(1, 1), 1023);
        rectangle(x, 0, 1023, 1, -7, -7);
    }

    private static void sumWraps() {
        GridFileIndex x = Make.with(0, 0, MAX, 0, 1, 1, 1, 0, MIN, 1, 1, -1);
        rectangle(x, 0, 1, 2, MIN, MAX);
        rectangle(x, Make.at(1, 0), Make.at(1, 1), 2, MAX, -1);
        rectangle(x, 0, 1023, 4, -1, MAX);
    }

    private static void mostOfSmallValues() {
        GridFileIndex x = Make.with(4, 4, MIN, 5, 5, MIN + 1, 6, 6, -3, 7, 7, -2);
        Due.same("most with MIN alone", x.most(Make.at(4, 4), Make.at(4, 4)), MIN);
        Due.same("most with MIN + 1", x.most(Make.at(4, 4), Make.at(5, 5)), MIN + 1);
        Due.same("most of values below 0", x.most(0, 1023), -2);
        x.put(7, 7, -4);
        Due.same("most after a change", x.most(0, 1023), -3);
    }

    private static void pointsInOrder() {
        GridFileIndex x = Make.with(6, 6, 1, 2, 6, 2, 2, 2, 3, 6, 2, 4, 4, 4, 5, 3, 9, 6);
        int low = Make.at(2, 2);
        int high = Make.at(6, 6);
        int[] want = {66, 70, 132, 194, 198};
        for (int i = 0; i < want.length; i++) {
            Due.same("point " + i, x.point(low, high, i), want[i]);
        }
        for (int none : new int[] {5, 6, 40, MAX, -1, MIN}) {
            Due.same("point " + none, x.point(low, high, none), -2);
        }
        Due.same("point of an empty rectangle", x.point(Make.at(3, 3), Make.at(3, 8), 0), -2);
        Due.same("point by column first", x.point(0, 1023, 2), 105);
        GridFileIndex full = Make.full();
        Due.same("the 40th", full.point(0, 1023, 39), 39);
        Due.same("the 41st", full.point(0, 1023, 40), -2);
        Due.same("point without points", new GridFileIndex().point(0, 1023, 0), -2);
    }

    private static void questionsChangeNothing() {
        GridFileIndex x = Make.with(9, 1, 1, 1, 9, 2, 5, 5, 3);
        x.size();
        for (int c : new int[] {-1, 0, 5, 31, 32}) {
            x.has(c, 5);
            x.valueAt(5, c);
            x.count(c, 1023);
            x.sum(0, Make.at(9, c));
            x.most(c, 500);
            x.point(0, 1023, c);
            x.nearest(c, c);
            x.within(c, 5, 100);
            x.closest();
            x.line(c, c);
            x.line(1, c);
            x.frontier();
        }
        Due.points("after questions", x, 41, 2, 165, 3, 289, 1);
    }
}
