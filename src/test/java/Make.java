/** Numbers and objects that the tests begin with. */
final class Make {
    static final int MIN = Integer.MIN_VALUE;
    static final int MAX = Integer.MAX_VALUE;

    /** What no place's x or y may be. */
    static final int[] BAD_COORDINATES = {MIN, -1024, -32, -1, 32, 33, 64, 1024, MAX};

    /** What no place may be as one number. */
    static final int[] BAD_PLACES = {MIN, -1024, -32, -1, 1024, 1025, 2048, MAX};

    /** Bad rectangles as low, high, low, high, ... */
    static final int[] BAD_RECTANGLES = {
        -1, 1023, MIN, 1023, 0, 1024, 0, MAX, 1024, 1024, 1024, 0, 0, -1, -1, -1, MAX, MIN,
        at(1, 0), at(0, 0), at(1, 0), at(0, 31), at(0, 1), at(0, 0), at(0, 1), at(31, 0), at(5, 5), at(4, 4),
    };

    private Make() {
    }

    static int at(int x, int y) {
        return 32 * x + y;
    }

    static int walk(int dx, int dy, int count) {
        return 4096 * (dx + 31) + 64 * (dy + 31) + count;
    }

    /** An object with the points given as x, y, value, x, y, value, ... */
    static GridFileIndex with(int... points) {
        GridFileIndex x = new GridFileIndex();
        for (int i = 0; i < points.length; i += 3) {
            Due.same("put(" + points[i] + ", " + points[i + 1] + ")", x.put(points[i], points[i + 1], points[i + 2]), 1);
        }
        return x;
    }

    /** 40 points: all of column 0 and the first 8 of column 1, each with its place as value. */
    static GridFileIndex full() {
        GridFileIndex x = new GridFileIndex();
        for (int place = 0; place < 40; place++) {
            Due.same("put at place " + place, x.put(place / 32, place % 32, place), 1);
        }
        return x;
    }

    /** The points of full(), in the form that Due.points takes. */
    static int[] fullPoints() {
        int[] want = new int[80];
        for (int i = 0; i < 80; i++) {
            want[i] = i / 2;
        }
        return want;
    }
}
