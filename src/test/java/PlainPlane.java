import java.util.ArrayList;
import java.util.HashMap;
import java.util.List;
import java.util.Map;

/** The document once more, held as a plane of places, to compare the class with. */
final class PlainPlane {
    /** Every walk there is, with its dx, dy and count: found by making them all, not by taking a number apart. */
    private static final Map<Integer, int[]> WALKS = allWalks();

    private final Integer[][] plane = new Integer[32][32];

    private static Map<Integer, int[]> allWalks() {
        Map<Integer, int[]> walks = new HashMap<>();
        for (int dx = -31; dx <= 31; dx++) {
            for (int dy = -31; dy <= 31; dy++) {
                for (int count = 1; count <= 40; count++) {
                    walks.put(Make.walk(dx, dy, count), new int[] {dx, dy, count});
                }
            }
        }
        return walks;
    }

    private static boolean good(int x, int y) {
        return 0 <= x && x <= 31 && 0 <= y && y <= 31;
    }

    private static boolean goodNumber(int place) {
        return 0 <= place && place <= 1023;
    }

    private static boolean goodRectangle(int low, int high) {
        return goodNumber(low) && goodNumber(high) && low / 32 <= high / 32 && low % 32 <= high % 32;
    }

    /** The points of a rectangle as {x, y, value}, in rising order of their numbers. */
    private List<int[]> in(int low, int high) {
        List<int[]> found = new ArrayList<>();
        for (int x = low / 32; x <= high / 32; x++) {
            for (int y = low % 32; y <= high % 32; y++) {
                if (plane[x][y] != null) {
                    found.add(new int[] {x, y, plane[x][y]});
                }
            }
        }
        return found;
    }

    private List<int[]> all() {
        return in(0, 1023);
    }

    private static int distance(int[] p, int x, int y) {
        return (p[0] - x) * (p[0] - x) + (p[1] - y) * (p[1] - y);
    }

    int put(int x, int y, int value) {
        if (!good(x, y)) {
            return -1;
        }
        boolean isNew = plane[x][y] == null;
        if (isNew && size() == 40) {
            return -2;
        }
        plane[x][y] = value;
        return isNew ? 1 : 0;
    }

    int remove(int x, int y) {
        if (!good(x, y)) {
            return -1;
        }
        if (plane[x][y] == null) {
            return -2;
        }
        plane[x][y] = null;
        return 0;
    }

    int clear(int low, int high) {
        if (!goodRectangle(low, high)) {
            return -1;
        }
        List<int[]> gone = in(low, high);
        for (int[] p : gone) {
            plane[p[0]][p[1]] = null;
        }
        return gone.size();
    }

    int scatter(int place, int walk, int value) {
        if (!goodNumber(place)) {
            return -1;
        }
        int[] steps = WALKS.get(walk);
        if (steps == null) {
            return -2;
        }
        for (int k = 0; k < steps[2]; k++) {
            put(Math.floorMod(place / 32 + k * steps[0], 32), Math.floorMod(place % 32 + k * steps[1], 32), value + k);
        }
        return size();
    }

    int move(int from, int to) {
        if (!goodNumber(from) || !goodNumber(to)) {
            return -1;
        }
        if (plane[from / 32][from % 32] == null) {
            return -2;
        }
        if (plane[to / 32][to % 32] != null) {
            return -3;
        }
        plane[to / 32][to % 32] = plane[from / 32][from % 32];
        plane[from / 32][from % 32] = null;
        return 0;
    }

    int size() {
        return all().size();
    }

    int has(int x, int y) {
        return !good(x, y) ? -1 : plane[x][y] != null ? 1 : 0;
    }

    int valueAt(int x, int y) {
        return good(x, y) && plane[x][y] != null ? plane[x][y] : 0;
    }

    int count(int low, int high) {
        return goodRectangle(low, high) ? in(low, high).size() : -1;
    }

    int sum(int low, int high) {
        return goodRectangle(low, high) ? in(low, high).stream().mapToInt(p -> p[2]).sum() : 0;
    }

    int most(int low, int high) {
        return goodRectangle(low, high) ? in(low, high).stream().mapToInt(p -> p[2]).max().orElse(Make.MIN) : Make.MIN;
    }

    int point(int low, int high, int i) {
        if (!goodRectangle(low, high)) {
            return -1;
        }
        List<int[]> found = in(low, high);
        return 0 <= i && i < found.size() ? Make.at(found.get(i)[0], found.get(i)[1]) : -2;
    }

    int nearest(int x, int y) {
        if (!good(x, y)) {
            return -1;
        }
        for (int d = 0; d <= 2 * 31 * 31; d++) {
            for (int[] p : all()) {
                if (distance(p, x, y) == d) {
                    return Make.at(p[0], p[1]);
                }
            }
        }
        return -2;
    }

    int within(int x, int y, int reach) {
        return good(x, y) ? (int) all().stream().filter(p -> distance(p, x, y) <= reach).count() : -1;
    }

    int closest() {
        int least = -1;
        for (int[] p : all()) {
            for (int[] q : all()) {
                int d = distance(p, q[0], q[1]);
                if (d != 0 && (least == -1 || d < least)) {
                    least = d;
                }
            }
        }
        return least;
    }

    int line(int axis, int x) {
        if (axis < 0 || axis > 1) {
            return -1;
        }
        if (x < 0 || x > 31) {
            return -2;
        }
        return axis == 0 ? in(Make.at(x, 0), Make.at(x, 31)).size() : in(Make.at(0, x), Make.at(31, x)).size();
    }

    int frontier() {
        return (int) all().stream().filter(p -> in(Make.at(p[0], p[1]), 1023).size() == 1).count();
    }
}
