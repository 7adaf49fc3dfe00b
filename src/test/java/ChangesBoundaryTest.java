/** The boundary cases of promises 1 to 6, sentence by sentence. */
public final class ChangesBoundaryTest {
    private static final int MIN = Make.MIN;
    private static final int MAX = Make.MAX;
    private static final int[] NONE = Boundary.NONE;
    private static final int[] ONE = Boundary.ONE;
    private static final int[] THIRTY_NINE = Boundary.THIRTY_NINE;
    private static final int[] FORTY = Boundary.FORTY;

    private ChangesBoundaryTest() {
    }

    public static void main(String[] args) {
        newObject();
        put();
        putRefused();
        remove();
        removeRefused();
        clear();
        clearRefused();
        scatterSteps();
        scatterRemainders();
        scatterValues();
        scatterLeavesOut();
        scatterAnswers();
        scatterRefused();
        walkIsSuchANumber();
        everyWalk();
        move();
        moveRefused();
        Due.finish();
    }

    private static void newObject() {
        Due.sentence("Promise 1", "No points at first.");
        for (int first = 0; first < 1024; first += 256) {
            GridFileIndex x = new GridFileIndex();
            for (int place = first; place < first + 256; place++) {
                Due.same("has at place " + place, x.has(place / 32, place % 32), 0);
                Due.same("valueAt at place " + place, x.valueAt(place / 32, place % 32), 0);
            }
        }
        Boundary.stays(NONE, Call.size(), 0);
        Boundary.stays(NONE, Call.count(0, 1023), 0);
        GridFileIndex filled = Boundary.holding(FORTY);
        Due.points("a new object beside a full one", new GridFileIndex());
        Due.points("the full one", filled, FORTY);
    }

    private static void put() {
        Due.sentence("Promise 2", "Puts a point in, ... otherwise 1 if a point was put in");
        Boundary.becomes(NONE, Call.put(0, 0, 5), 1, 0, 5);
        Boundary.becomes(NONE, Call.put(31, 31, 5), 1, 1023, 5);
        Boundary.becomes(ONE, Call.put(16, 4, 5), 1, ONE[0] - 1, 5, ONE[0], ONE[1]);
        Boundary.becomes(ONE, Call.put(16, 6, 5), 1, ONE[0], ONE[1], ONE[0] + 1, 5);
        Boundary.becomes(THIRTY_NINE, Call.put(31, 31, FORTY[79]), 1, FORTY);
        Boundary.becomes(Boundary.without(FORTY, 0), Call.put(0, 0, FORTY[1]), 1, FORTY);
        Due.sentence("Promise 2", "or changes the value of the one that is there ... 0 if a value was changed");
        for (int value : new int[] {MIN, -1, 0, 1, 7, MAX}) {
            Boundary.becomes(ONE, Call.put(16, 5, value), 0, ONE[0], value);
        }
        Boundary.becomes(FORTY, Call.put(0, 0, -3), 0, Boundary.with(FORTY, 0, -3));
        Boundary.becomes(FORTY, Call.put(31, 31, -3), 0, Boundary.with(FORTY, 1023, -3));
        Boundary.becomes(THIRTY_NINE, Call.put(0, 0, -3), 0, Boundary.with(THIRTY_NINE, 0, -3));
    }

    private static void putRefused() {
        Due.sentence("Promise 2", "-1 if (x, y) is not good");
        for (int[] p : Boundary.BAD_PAIRS) {
            Boundary.staysInAll(Call.put(p[0], p[1], 12), -1);
        }
        Due.sentence("Promise 2", "-2 if there is no point and 40 points are held");
        for (int place : new int[] {1, 32, 500, 1022}) {
            Boundary.stays(FORTY, Call.put(place / 32, place % 32, 12), -2);
        }
        GridFileIndex x = Boundary.holding(FORTY);
        Due.same("put(31, 30, 12)", x.put(31, 30, 12), -2);
        Due.same("remove(0, 0)", x.remove(0, 0), 0);
        Due.same("put(31, 30, 12) with room", x.put(31, 30, 12), 1);
        Due.same("put(0, 0, 12) without room", x.put(0, 0, 12), -2);
        Due.points("the first gone, one more put in", x, Boundary.with(Boundary.without(FORTY, 0), 1022, 12));
    }

    private static void remove() {
        Due.sentence("Promise 3", "Takes a point out. ... otherwise 0.");
        Boundary.becomes(ONE, Call.remove(16, 5), 0, NONE);
        Boundary.becomes(new int[] {0, 1}, Call.remove(0, 0), 0, NONE);
        Boundary.becomes(new int[] {1023, 1}, Call.remove(31, 31), 0, NONE);
        for (int i : new int[] {0, 1, 20, 38, 39}) {
            int place = FORTY[2 * i];
            Boundary.becomes(FORTY, Call.remove(place / 32, place % 32), 0, Boundary.without(FORTY, place));
        }
        GridFileIndex x = Boundary.holding(FORTY);
        for (int i = 0; i < 40; i++) {
            Due.same("remove " + i, x.remove(FORTY[2 * i] / 32, FORTY[2 * i] % 32), 0);
        }
        Due.points("after 40 removes", x);
    }

    private static void removeRefused() {
        Due.sentence("Promise 3", "-1 if (x, y) is not good");
        for (int[] p : Boundary.BAD_PAIRS) {
            Boundary.staysInAll(Call.remove(p[0], p[1]), -1);
        }
        Due.sentence("Promise 3", "-2 if there is none");
        for (int place : new int[] {0, 31, 992, 1023}) {
            Boundary.stays(NONE, Call.remove(place / 32, place % 32), -2);
        }
        for (int[] p : new int[][] {{15, 5}, {17, 5}, {16, 4}, {16, 6}, {5, 16}}) {
            Boundary.stays(ONE, Call.remove(p[0], p[1]), -2);
        }
        Boundary.stays(FORTY, Call.remove(0, 1), -2);
        Boundary.stays(FORTY, Call.remove(31, 30), -2);
        Boundary.stays(THIRTY_NINE, Call.remove(31, 31), -2);
        GridFileIndex x = Boundary.holding(0, 1, 1023, 2);
        Due.same("remove(31, 31)", x.remove(31, 31), 0);
        Due.same("remove(31, 31) again", x.remove(31, 31), -2);
        Due.same("remove(0, 0)", x.remove(0, 0), 0);
        Due.same("remove(0, 0) again", x.remove(0, 0), -2);
    }

    private static void clear() {
        Due.sentence("Promise 4", "Takes all points of a rectangle out. ... otherwise answers how many those were.");
        Boundary.stays(NONE, Call.clear(0, 1023), 0);
        Boundary.stays(NONE, Call.clear(0, 0), 0);
        Boundary.becomes(ONE, Call.clear(0, 1023), 1, NONE);
        Boundary.becomes(ONE, Call.clear(ONE[0], ONE[0]), 1, NONE);
        Boundary.stays(ONE, Call.clear(0, Make.at(15, 31)), 0);
        Boundary.stays(ONE, Call.clear(Make.at(0, 6), 1023), 0);
        Boundary.becomes(THIRTY_NINE, Call.clear(0, 1023), 39, NONE);
        Boundary.becomes(FORTY, Call.clear(0, 1023), 40, NONE);
        Boundary.becomes(FORTY, Call.clear(0, 0), 1, Boundary.without(FORTY, 0));
        Boundary.becomes(FORTY, Call.clear(1023, 1023), 1, Boundary.without(FORTY, 1023));
        Boundary.stays(FORTY, Call.clear(1, 1), 0);
        int[] corners = {0, 1, 31, 2, 992, 3, 1023, 4};
        Boundary.becomes(corners, Call.clear(0, 31), 2, 992, 3, 1023, 4);
        Boundary.becomes(corners, Call.clear(992, 1023), 2, 0, 1, 31, 2);
        Boundary.becomes(corners, Call.clear(0, 992), 2, 31, 2, 1023, 4);
        Boundary.becomes(corners, Call.clear(31, 1023), 2, 0, 1, 992, 3);
        Boundary.stays(corners, Call.clear(Make.at(1, 0), Make.at(30, 31)), 0);
    }

    private static void clearRefused() {
        Due.sentence("Promise 4", "-1 if the rectangle is not good");
        for (int[] r : Boundary.BAD_RECTANGLES) {
            Boundary.staysInAll(Call.clear(r[0], r[1]), -1);
        }
    }

    private static void scatterSteps() {
        Due.sentence("Promise 5", "Puts points in, one after the other like put");
        Boundary.becomes(NONE, Call.scatter(9, Make.walk(0, 0, 40), 1), 1, 9, 40);
        Boundary.becomes(new int[] {9, 99}, Call.scatter(9, Make.walk(0, 1, 2), 1), 2, 9, 1, 10, 2);
        Boundary.becomes(NONE, Call.scatter(0, Make.walk(16, 0, 3), 1), 2, 0, 3, Make.at(16, 0), 2);
        Due.sentence("Promise 5", "for k = 0 .. count-1");
        Boundary.becomes(NONE, Call.scatter(9, Make.walk(1, 1, 1), 1), 1, 9, 1);
        Boundary.becomes(NONE, Call.scatter(9, Make.walk(1, 1, 2), 1), 2, 9, 1, 42, 2);
        Boundary.becomes(NONE, Call.scatter(9, Make.walk(1, 1, 3), 1), 3, 9, 1, 42, 2, 75, 3);
        GridFileIndex x = new GridFileIndex();
        Due.same("40 steps", x.scatter(0, Make.walk(1, 0, 40), 0), 32);
        Due.same("the 40th step", x.valueAt(7, 0), 39);
        Due.same("no 41st step", x.valueAt(8, 0), 8);
    }

    private static void scatterRemainders() {
        Due.sentence("Promise 5", "at (x + k * dx, y + k * dy) modulo 32 (remainders in 0 .. 31)");
        int[][] startStepAndSecond = {
            {0, 0, -1, 0, 31, 0}, {0, 0, 0, -1, 0, 31}, {0, 0, -1, -1, 31, 31}, {1, 1, -1, -1, 0, 0},
            {31, 31, 1, 0, 0, 31}, {31, 31, 0, 1, 31, 0}, {31, 31, 1, 1, 0, 0}, {30, 30, 1, 1, 31, 31},
            {3, 31, 0, 1, 3, 0}, {3, 0, 0, -1, 3, 31}, {0, 0, -31, -31, 1, 1}, {31, 31, 31, 31, 30, 30},
            {0, 31, -31, 31, 1, 30}, {31, 0, 31, -31, 30, 1}, {31, 31, -31, -31, 0, 0}, {0, 0, 31, 31, 31, 31},
        };
        for (int[] s : startStepAndSecond) {
            int first = Make.at(s[0], s[1]);
            int second = Make.at(s[4], s[5]);
            int[] after = first < second ? new int[] {first, 50, second, 51} : new int[] {second, 51, first, 50};
            Boundary.becomes(NONE, Call.scatter(first, Make.walk(s[2], s[3], 2), 50), 2, after);
        }
        for (int[] step : new int[][] {{-31, -31}, {31, 31}, {-31, 31}, {31, -31}}) {
            farthestSteps(step[0], step[1]);
        }
    }

    /** 40 steps of 31 go some 1200 below 0 or above 31; each step of 31 is one of 1 the other way. */
    private static void farthestSteps(int dx, int dy) {
        int x = dx < 0 ? 0 : 31;
        int y = dy < 0 ? 0 : 31;
        int[] after = new int[64];
        for (int k = 0; k < 32; k++) {
            int column = dx < 0 ? k : 31 - k;
            int row = dy < 0 ? k : 31 - k;
            after[2 * column] = Make.at(column, row);
            after[2 * column + 1] = k < 8 ? 100 + k + 32 : 100 + k;
        }
        Boundary.becomes(NONE, Call.scatter(Make.at(x, y), Make.walk(dx, dy, 40), 100), 32, after);
    }

    private static void scatterValues() {
        Due.sentence("Promise 5", "with the value value + k");
        int walk = Make.walk(0, 1, 3);
        Boundary.becomes(NONE, Call.scatter(0, walk, MIN), 3, 0, MIN, 1, MIN + 1, 2, MIN + 2);
        Boundary.becomes(NONE, Call.scatter(0, walk, -1), 3, 0, -1, 1, 0, 2, 1);
        Boundary.becomes(NONE, Call.scatter(0, walk, MAX - 2), 3, 0, MAX - 2, 1, MAX - 1, 2, MAX);
        Boundary.becomes(NONE, Call.scatter(0, walk, MAX), 3, 0, MAX, 1, MIN, 2, MIN + 1);
        // A place that is left out or that has a point takes its k all the same.
        Boundary.becomes(new int[] {1, 99}, Call.scatter(0, walk, 10), 3, 0, 10, 1, 11, 2, 12);
    }

    private static void scatterLeavesOut() {
        Due.sentence("Promise 5", "those for which put would be refused are left out");
        int up = Make.walk(0, 1, 3);
        int down = Make.walk(0, -1, 3);
        Boundary.stays(FORTY, Call.scatter(1, up, 5), 40);
        Boundary.becomes(FORTY, Call.scatter(0, up, 5), 40, Boundary.with(FORTY, 0, 5));
        Boundary.becomes(FORTY, Call.scatter(1021, up, 5), 40, Boundary.with(FORTY, 1023, 7));
        Boundary.becomes(THIRTY_NINE, Call.scatter(1, up, 5), 40, Boundary.with(THIRTY_NINE, 1, 5));
        // Step 0 takes the last room, step 1 finds none, and step 2 still changes the point that is there.
        int[] filled = Boundary.with(THIRTY_NINE, 2, 5);
        Boundary.becomes(THIRTY_NINE, Call.scatter(2, down, 5), 40, Boundary.with(filled, 0, 7));
        int[] roomForTwo = Boundary.without(THIRTY_NINE, 0);
        int[] twoMore = Boundary.with(Boundary.with(roomForTwo, 1, 5), 2, 6);
        Boundary.becomes(roomForTwo, Call.scatter(1, up, 5), 40, twoMore);
    }

    private static void scatterAnswers() {
        Due.sentence("Promise 5", "otherwise answers how many points there are now");
        int oneStep = Make.walk(0, 0, 1);
        Boundary.becomes(NONE, Call.scatter(0, oneStep, 5), 1, 0, 5);
        Boundary.becomes(ONE, Call.scatter(ONE[0], oneStep, 5), 1, ONE[0], 5);
        Boundary.becomes(ONE, Call.scatter(1023, oneStep, 5), 2, Boundary.with(ONE, 1023, 5));
        Boundary.becomes(THIRTY_NINE, Call.scatter(0, oneStep, 5), 39, Boundary.with(THIRTY_NINE, 0, 5));
        Boundary.becomes(THIRTY_NINE, Call.scatter(1023, oneStep, 5), 40, Boundary.with(FORTY, 1023, 5));
        Boundary.stays(FORTY, Call.scatter(1, Make.walk(0, 0, 40), 5), 40);
    }

    private static void scatterRefused() {
        Due.sentence("Promise 5", "-1 if place is not in 0 .. 1023");
        for (int place : Boundary.BAD_NUMBERS) {
            Boundary.staysInAll(Call.scatter(place, Make.walk(0, 0, 1), 5), -1);
            Boundary.staysInAll(Call.scatter(place, Make.walk(1, 1, 40), 5), -1);
        }
        Boundary.becomes(NONE, Call.scatter(0, 1, 5), 1, 0, 5);
        Boundary.becomes(NONE, Call.scatter(1023, 1, 5), 1, 1023, 5);
        Due.sentence("Promise 5", "place is 32 * x + y");
        for (int place : new int[] {0, 1, 31, 32, 991, 992, 1022, 1023}) {
            GridFileIndex x = new GridFileIndex();
            Due.same("scatter(" + place + ", 1, 5)", x.scatter(place, 1, 5), 1);
            Due.same("valueAt(" + place / 32 + ", " + place % 32 + ")", x.valueAt(place / 32, place % 32), 5);
        }
    }

    private static void walkIsSuchANumber() {
        Due.sentence("Promise 5", "with dx and dy in -31 .. 31 and count in 1 .. 40 ... -2 if walk is not such a number");
        int good = Make.walk(0, 0, 1);
        int[] bad = {
            MIN, -1, 0, MAX, Make.walk(31, 31, 40) + 1,
            Make.walk(0, 0, 0), Make.walk(0, 0, 41), Make.walk(0, 0, 63), Make.walk(31, 31, 0), Make.walk(-31, -31, 41),
            Make.walk(0, 32, 1), Make.walk(0, 32, 40), Make.walk(31, 32, 1), Make.walk(-31, 32, 1),
            Make.walk(0, -32, 1), Make.walk(-31, -32, 1), Make.walk(31, -32, 40),
            Make.walk(32, 0, 1), Make.walk(32, -31, 1), Make.walk(32, 31, 40),
            Make.walk(-32, 0, 1), Make.walk(-32, 31, 40), Make.walk(-32, -31, 1),
            good + 64 * 4096, good - 64 * 4096, good + MIN, -good, good + (1 << 30),
        };
        for (int walk : bad) {
            Boundary.staysInAll(Call.scatter(5, walk, 5), -2);
        }
        int[] least = {5, 70};
        for (int walk : new int[] {1, Make.walk(31, 31, 1), Make.walk(-31, 31, 1), Make.walk(31, -31, 1)}) {
            Boundary.becomes(NONE, Call.scatter(5, walk, 70), 1, least);
        }
        for (int walk : new int[] {40, Make.walk(31, 31, 40), Make.walk(-31, 31, 40), Make.walk(31, -31, 40)}) {
            Due.same("scatter(5, " + walk + ", 70)", new GridFileIndex().scatter(5, walk, 70), 32);
        }
    }

    private static void everyWalk() {
        Due.sentence("Promise 5", "walk is 4096 * (dx + 31) + 64 * (dy + 31) + count");
        int next = -9000;
        for (int dx = -31; dx <= 31; dx++) {
            for (int dy = -31; dy <= 31; dy++) {
                for (; next < Make.walk(dx, dy, 1); next++) {
                    Due.same("scatter(0, " + next + ", 1)", new GridFileIndex().scatter(0, next, 1), -2);
                }
                for (int count = 1; count <= 40; count++, next++) {
                    everyGoodWalk(dx, dy, count);
                }
            }
        }
        for (; next < 4096 * 66; next++) {
            Due.same("scatter(0, " + next + ", 1)", new GridFileIndex().scatter(0, next, 1), -2);
        }
    }

    private static void everyGoodWalk(int dx, int dy, int count) {
        GridFileIndex x = new GridFileIndex();
        int walk = Make.walk(dx, dy, count);
        Due.yes("scatter(0, " + walk + ", 1) is taken", x.scatter(0, walk, 1) >= 1);
        int column = Math.floorMod((count - 1) * dx, 32);
        int row = Math.floorMod((count - 1) * dy, 32);
        Due.same("last value of scatter(0, " + walk + ", 1)", x.valueAt(column, row), count);
    }

    private static void move() {
        Due.sentence("Promise 6", "Moves a point with its value to another place. ... otherwise 0.");
        for (int value : new int[] {MIN, 0, MAX}) {
            Boundary.becomes(new int[] {0, value}, Call.move(0, 1023), 0, 1023, value);
            Boundary.becomes(new int[] {1023, value}, Call.move(1023, 0), 0, 0, value);
            Boundary.becomes(new int[] {500, value}, Call.move(500, 501), 0, 501, value);
        }
        int[] firstGone = Boundary.without(FORTY, 0);
        int[] lastGone = Boundary.without(FORTY, 1023);
        Boundary.becomes(FORTY, Call.move(0, 1), 0, Boundary.with(firstGone, 1, FORTY[1]));
        Boundary.becomes(FORTY, Call.move(0, 1022), 0, Boundary.with(firstGone, 1022, FORTY[1]));
        Boundary.becomes(FORTY, Call.move(1023, 1022), 0, Boundary.with(lastGone, 1022, FORTY[79]));
        Boundary.becomes(FORTY, Call.move(1023, 1), 0, Boundary.with(lastGone, 1, FORTY[79]));
        GridFileIndex x = Boundary.holding(3, 8);
        Due.same("move(3, 4)", x.move(3, 4), 0);
        Due.same("move(4, 3)", x.move(4, 3), 0);
        Due.points("there and back", x, 3, 8);
    }

    private static void moveRefused() {
        Due.sentence("Promise 6", "-1 if from or to is not in 0 .. 1023");
        for (int bad : Boundary.BAD_NUMBERS) {
            Boundary.staysInAll(Call.move(bad, 3), -1);
            Boundary.staysInAll(Call.move(bad, 0), -1);
            Boundary.staysInAll(Call.move(0, bad), -1);
            Boundary.staysInAll(Call.move(ONE[0], bad), -1);
            Boundary.staysInAll(Call.move(3, bad), -1);
            Boundary.staysInAll(Call.move(bad, bad), -1);
        }
        Due.sentence("Promise 6", "-2 if there is no point at from");
        Boundary.stays(NONE, Call.move(0, 1023), -2);
        Boundary.stays(NONE, Call.move(1023, 0), -2);
        Boundary.stays(NONE, Call.move(0, 0), -2);
        Boundary.stays(ONE, Call.move(ONE[0] - 1, 3), -2);
        Boundary.stays(ONE, Call.move(ONE[0] + 1, 3), -2);
        Boundary.stays(ONE, Call.move(3, ONE[0]), -2);
        Boundary.stays(ONE, Call.move(3, 3), -2);
        Boundary.stays(FORTY, Call.move(1, 2), -2);
        Boundary.stays(FORTY, Call.move(1, 0), -2);
        Due.sentence("Promise 6", "-3 if there is a point at to");
        Boundary.stays(new int[] {0, 1, 1023, 2}, Call.move(0, 1023), -3);
        Boundary.stays(new int[] {0, 1, 1023, 2}, Call.move(1023, 0), -3);
        Boundary.stays(FORTY, Call.move(0, 1023), -3);
        Due.sentence("Promise 6", "(also if from and to are the same)");
        Boundary.stays(ONE, Call.move(ONE[0], ONE[0]), -3);
        Boundary.stays(new int[] {0, 1}, Call.move(0, 0), -3);
        Boundary.stays(new int[] {1023, 1}, Call.move(1023, 1023), -3);
        Boundary.stays(FORTY, Call.move(FORTY[40], FORTY[40]), -3);
    }
}
