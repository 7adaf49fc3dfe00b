import java.util.ArrayList;
import java.util.Arrays;
import java.util.List;
import java.util.TreeMap;
import java.util.stream.IntStream;

/**
 * States and numbers at the document's boundaries, and the look at one call on a new object.
 * A state is given by its points, as place, value, place, value, ... in rising order of places.
 */
final class Boundary {
    static final int MIN = Make.MIN;
    static final int MAX = Make.MAX;

    static final int[] NONE = {};
    static final int[] ONE = {Make.at(16, 5), 7};

    /** Points where a place or number that is not good would fall if it were cut down to a good one. */
    static final int[] EDGES = {
        Make.at(0, 0), -5, Make.at(0, 5), 60, Make.at(0, 31), MAX, Make.at(1, 0), -1, Make.at(5, 0), 4,
        Make.at(5, 31), MIN, Make.at(31, 0), 9, Make.at(31, 5), 70, Make.at(31, 31), 8,
    };

    /** 40 points over all the plane, (0, 0) and (31, 31) among them. */
    static final int[] FORTY = spread(40);

    /** FORTY without its last point, (31, 31). */
    static final int[] THIRTY_NINE = Arrays.copyOf(FORTY, 78);

    static final int[][] STATES = {NONE, ONE, EDGES, THIRTY_NINE, FORTY};

    /** Pairs (x, y) that are not good, by x alone, by y alone, by both; some are a place's number as 32 * x + y. */
    static final int[][] BAD_PAIRS = {
        {-1, 5}, {32, 5}, {MIN, 5}, {MAX, 5}, {1 << 27, 5}, {5, -1}, {5, 32}, {5, MIN}, {5, MAX},
        {-1, -1}, {32, 32}, {MIN, MIN}, {MAX, MAX}, {1, -1}, {0, 32}, {32, -1}, {-1, 32},
    };

    /** What is not in 0 .. 1023. */
    static final int[] BAD_NUMBERS = {-1, 1024, MIN, MAX, -32, -1024, 1055, 2047};

    static final int[][] LOW_NOT_A_NUMBER = {
        {-1, 1023}, {-1, 0}, {-32, 1023}, {-1024, 1023}, {MIN, 1023}, {1024, 1023}, {1024, 0}, {MAX, 1023}, {MAX, 31},
    };
    static final int[][] HIGH_NOT_A_NUMBER = {
        {0, 1024}, {0, 1055}, {0, 2047}, {0, MAX}, {1023, 1024}, {992, 1024}, {0, -1}, {0, MIN}, {31, -1},
    };
    static final int[][] BOTH_NOT_NUMBERS = {
        {-1, -1}, {1024, 1024}, {1024, 1055}, {MIN, MAX}, {MAX, MIN}, {MIN, MIN}, {MAX, MAX}, {-1024, -1}, {-1, 1024},
    };
    static final int[][] X_FALLS = {
        {Make.at(6, 2), Make.at(5, 9)}, {Make.at(1, 0), Make.at(0, 0)}, {Make.at(1, 0), Make.at(0, 31)},
        {Make.at(31, 0), Make.at(0, 31)}, {Make.at(31, 31), Make.at(30, 31)},
    };
    static final int[][] Y_FALLS = {
        {Make.at(2, 6), Make.at(9, 5)}, {Make.at(0, 1), Make.at(0, 0)}, {Make.at(0, 1), Make.at(31, 0)},
        {Make.at(0, 31), Make.at(31, 0)}, {Make.at(31, 31), Make.at(31, 30)}, {Make.at(0, 31), Make.at(31, 30)},
    };
    static final int[][] BOTH_FALL = {{Make.at(31, 31), Make.at(0, 0)}, {Make.at(5, 5), Make.at(4, 4)}};

    /** Rectangles that are not good, by each of the reasons. */
    static final int[][] BAD_RECTANGLES =
        joined(LOW_NOT_A_NUMBER, HIGH_NOT_A_NUMBER, BOTH_NOT_NUMBERS, X_FALLS, Y_FALLS, BOTH_FALL);

    private static final List<Call> GOING_ON = goingOn();

    private Boundary() {
    }

    private static int[] spread(int size) {
        int[] points = new int[2 * size];
        for (int i = 0; i < size; i++) {
            points[2 * i] = 1023 * i / (size - 1);
            points[2 * i + 1] = 1000 - 37 * i;
        }
        return points;
    }

    private static int[][] joined(int[][]... parts) {
        return Arrays.stream(parts).flatMap(Arrays::stream).toArray(int[][]::new);
    }

    /** A new object with these points, put in from the last to the first. */
    static GridFileIndex holding(int... points) {
        GridFileIndex x = new GridFileIndex();
        for (int i = points.length - 2; i >= 0; i -= 2) {
            Due.same("put at place " + points[i], x.put(points[i] / 32, points[i] % 32, points[i + 1]), 1);
        }
        return x;
    }

    /** The points without the one at this place. */
    static int[] without(int[] points, int place) {
        return IntStream.range(0, points.length).filter(i -> points[i - i % 2] != place).map(i -> points[i]).toArray();
    }

    /** The points with this value at this place, whether there was a point or not. */
    static int[] with(int[] points, int place, int value) {
        TreeMap<Integer, Integer> valueOf = new TreeMap<>();
        for (int i = 0; i < points.length; i += 2) {
            valueOf.put(points[i], points[i + 1]);
        }
        valueOf.put(place, value);
        return valueOf.entrySet().stream().flatMapToInt(e -> IntStream.of(e.getKey(), e.getValue())).toArray();
    }

    static String shown(int... points) {
        return points.length / 2 + " points: ";
    }

    /** On a new object with these points the call answers so, and all is as before. */
    static void stays(int[] points, Call call, int want) {
        becomes(points, call, want, points);
    }

    static void staysInAll(Call call, int want) {
        for (int[] points : STATES) {
            stays(points, call, want);
        }
    }

    /** On a new object with these points the call answers so, and then the object holds the points `after`. */
    static void becomes(int[] points, Call call, int want, int... after) {
        GridFileIndex x = holding(points);
        String text = shown(points) + call.text();
        Due.same(text, call.on(x), want);
        Due.points("after " + text, x, after);
        goesOnAlike("after " + text, x, holding(after));
    }

    /** What the points don't show (room that is lost, say) shows in how the object goes on. */
    static void goesOnAlike(String when, GridFileIndex x, GridFileIndex twin) {
        for (Call call : GOING_ON) {
            Due.same(when + ": " + call.text(), call.on(x), call.on(twin));
        }
    }

    /** Questions, then changes up to 40 points and one more, then a look at all: under 250 calls. */
    private static List<Call> goingOn() {
        List<Call> calls = new ArrayList<>(questions());
        calls.add(Call.move(Make.at(16, 5), Make.at(2, 30)));
        calls.add(Call.remove(31, 31));
        calls.add(Call.clear(Make.at(4, 0), Make.at(6, 31)));
        calls.add(Call.scatter(Make.at(30, 29), Make.walk(3, -5, 4), 11));
        for (int i = 0; i < 41; i++) {
            calls.add(Call.put(i % 32, 3 + i / 32, i));
        }
        calls.addAll(questions());
        for (int i = 0; i <= 40; i++) {
            calls.add(Call.point(0, 1023, i));
        }
        return calls;
    }

    private static List<Call> questions() {
        List<Call> calls = new ArrayList<>(List.of(Call.size(), Call.closest(), Call.frontier()));
        for (int[] place : new int[][] {{0, 0}, {16, 5}, {31, 31}}) {
            int x = place[0];
            int y = place[1];
            calls.addAll(List.of(Call.has(x, y), Call.valueAt(x, y), Call.nearest(x, y), Call.within(x, y, 100)));
            calls.addAll(List.of(Call.line(0, x), Call.line(1, y)));
        }
        for (int[] corners : new int[][] {{0, 1023}, {Make.at(0, 5), Make.at(16, 31)}, {Make.at(16, 0), Make.at(31, 16)}}) {
            int low = corners[0];
            int high = corners[1];
            calls.addAll(List.of(Call.count(low, high), Call.sum(low, high), Call.most(low, high), Call.point(low, high, 1)));
        }
        return calls;
    }
}
