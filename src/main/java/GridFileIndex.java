/** Points with values on a small plane, with questions on rectangles and nearness. */
public final class GridFileIndex {
    private static final int SIDE = 32;
    private static final int PLACES = 1024;
    private static final int MOST_POINTS = 40;

    private static final int STEP_SHIFT = 31;
    private static final int GREATEST_SHIFTED_STEP = 62;
    private static final int WALK_BASE = 64;

    private static final int LEAST_INT = -2147483648;
    private static final int BEYOND_ALL_DISTANCES = 2147483647;

    // The first `held` entries are the points, in rising order of their places:
    // then a walk from the front meets the least number first, as point and nearest need.
    private final int[] places = new int[MOST_POINTS];
    private final int[] values = new int[MOST_POINTS];
    private int held;

    public GridFileIndex() {
        held = 0;
    }

    public int put(int x, int y, int value) {
        if (!isGoodPlace(x, y)) {
            return -1;
        }
        return store(SIDE * x + y, value);
    }

    public int remove(int x, int y) {
        if (!isGoodPlace(x, y)) {
            return -1;
        }
        int slot = slotOf(SIDE * x + y);
        if (slot < 0) {
            return -2;
        }
        takeOut(slot);
        return 0;
    }

    public int clear(int low, int high) {
        if (!isGoodRectangle(low, high)) {
            return -1;
        }
        int before = held;
        int kept = 0;
        for (int i = 0; i < before; i++) {
            if (!isInside(places[i], low, high)) {
                places[kept] = places[i];
                values[kept] = values[i];
                kept++;
            }
        }
        held = kept;
        return before - kept;
    }

    public int scatter(int place, int walk, int value) {
        if (!isPlaceNumber(place)) {
            return -1;
        }
        if (!isWalk(walk)) {
            return -2;
        }
        int dx = walk / (WALK_BASE * WALK_BASE) - STEP_SHIFT;
        int dy = walk / WALK_BASE % WALK_BASE - STEP_SHIFT;
        int steps = walk % WALK_BASE;
        for (int k = 0; k < steps; k++) {
            int x = wrapped(place / SIDE + k * dx);
            int y = wrapped(place % SIDE + k * dy);
            store(SIDE * x + y, value + k);
        }
        return held;
    }

    public int move(int from, int to) {
        if (!isPlaceNumber(from) || !isPlaceNumber(to)) {
            return -1;
        }
        int slot = slotOf(from);
        if (slot < 0) {
            return -2;
        }
        if (slotOf(to) >= 0) {
            return -3;
        }
        int value = values[slot];
        takeOut(slot);
        store(to, value);
        return 0;
    }

    public int size() {
        return held;
    }

    public int has(int x, int y) {
        if (!isGoodPlace(x, y)) {
            return -1;
        }
        return slotOf(SIDE * x + y) >= 0 ? 1 : 0;
    }

    public int valueAt(int x, int y) {
        if (!isGoodPlace(x, y)) {
            return 0;
        }
        int slot = slotOf(SIDE * x + y);
        return slot >= 0 ? values[slot] : 0;
    }

    public int count(int low, int high) {
        if (!isGoodRectangle(low, high)) {
            return -1;
        }
        int found = 0;
        for (int i = 0; i < held; i++) {
            if (isInside(places[i], low, high)) {
                found++;
            }
        }
        return found;
    }

    public int sum(int low, int high) {
        if (!isGoodRectangle(low, high)) {
            return 0;
        }
        int total = 0;
        for (int i = 0; i < held; i++) {
            if (isInside(places[i], low, high)) {
                total += values[i];
            }
        }
        return total;
    }

    public int most(int low, int high) {
        if (!isGoodRectangle(low, high)) {
            return LEAST_INT;
        }
        int greatest = LEAST_INT;
        for (int i = 0; i < held; i++) {
            if (isInside(places[i], low, high) && values[i] > greatest) {
                greatest = values[i];
            }
        }
        return greatest;
    }

    public int point(int low, int high, int i) {
        if (!isGoodRectangle(low, high)) {
            return -1;
        }
        int passed = 0;
        for (int slot = 0; slot < held; slot++) {
            if (isInside(places[slot], low, high)) {
                if (passed == i) {
                    return places[slot];
                }
                passed++;
            }
        }
        return -2;
    }

    public int nearest(int x, int y) {
        if (!isGoodPlace(x, y)) {
            return -1;
        }
        int centre = SIDE * x + y;
        int best = -2;
        int least = BEYOND_ALL_DISTANCES;
        for (int i = 0; i < held; i++) {
            int d = distance(places[i], centre);
            if (d < least) {
                least = d;
                best = places[i];
            }
        }
        return best;
    }

    public int within(int x, int y, int reach) {
        if (!isGoodPlace(x, y)) {
            return -1;
        }
        int centre = SIDE * x + y;
        int found = 0;
        for (int i = 0; i < held; i++) {
            if (distance(places[i], centre) <= reach) {
                found++;
            }
        }
        return found;
    }

    public int closest() {
        if (held < 2) {
            return -1;
        }
        int least = BEYOND_ALL_DISTANCES;
        for (int i = 0; i < held; i++) {
            for (int j = i + 1; j < held; j++) {
                int d = distance(places[i], places[j]);
                if (d < least) {
                    least = d;
                }
            }
        }
        return least;
    }

    public int line(int axis, int x) {
        if (axis != 0 && axis != 1) {
            return -1;
        }
        if (!isCoordinate(x)) {
            return -2;
        }
        int found = 0;
        for (int i = 0; i < held; i++) {
            int across = axis == 0 ? places[i] / SIDE : places[i] % SIDE;
            if (across == x) {
                found++;
            }
        }
        return found;
    }

    public int frontier() {
        int found = 0;
        for (int i = 0; i < held; i++) {
            if (!isDominated(places[i])) {
                found++;
            }
        }
        return found;
    }

    private static boolean isCoordinate(int c) {
        return c >= 0 && c < SIDE;
    }

    private static boolean isGoodPlace(int x, int y) {
        return isCoordinate(x) && isCoordinate(y);
    }

    private static boolean isPlaceNumber(int place) {
        return place >= 0 && place < PLACES;
    }

    private static boolean isGoodRectangle(int low, int high) {
        return isPlaceNumber(low) && isPlaceNumber(high) && isAtOrBeyond(high, low);
    }

    private static boolean isWalk(int walk) {
        if (walk < 0) {
            return false;
        }
        int steps = walk % WALK_BASE;
        return walk / (WALK_BASE * WALK_BASE) <= GREATEST_SHIFTED_STEP
            && walk / WALK_BASE % WALK_BASE <= GREATEST_SHIFTED_STEP
            && steps >= 1 && steps <= MOST_POINTS;
    }

    /** The remainder in 0 .. 31, also for a number below 0, where % would answer one below 0. */
    private static int wrapped(int c) {
        return c & (SIDE - 1);
    }

    /** Whether neither x nor y of the first place is less than that of the second. */
    private static boolean isAtOrBeyond(int place, int other) {
        return place / SIDE >= other / SIDE && place % SIDE >= other % SIDE;
    }

    private static boolean isInside(int place, int low, int high) {
        return isAtOrBeyond(place, low) && isAtOrBeyond(high, place);
    }

    private static int distance(int place, int other) {
        int dx = place / SIDE - other / SIDE;
        int dy = place % SIDE - other % SIDE;
        return dx * dx + dy * dy;
    }

    private boolean isDominated(int place) {
        for (int i = 0; i < held; i++) {
            if (places[i] != place && isAtOrBeyond(places[i], place)) {
                return true;
            }
        }
        return false;
    }

    /** Where the point of a place stands in the arrays; -1 if there is none. */
    private int slotOf(int place) {
        for (int i = 0; i < held; i++) {
            if (places[i] == place) {
                return i;
            }
        }
        return -1;
    }

    /** Answers as put does for a good place. */
    private int store(int place, int value) {
        int slot = slotOf(place);
        if (slot >= 0) {
            values[slot] = value;
            return 0;
        }
        if (held >= MOST_POINTS) {
            return -2;
        }
        putIn(place, value);
        return 1;
    }

    /** Only for a place without a point, while there is room. */
    private void putIn(int place, int value) {
        int slot = held;
        while (slot > 0 && places[slot - 1] > place) {
            places[slot] = places[slot - 1];
            values[slot] = values[slot - 1];
            slot--;
        }
        places[slot] = place;
        values[slot] = value;
        held++;
    }

    private void takeOut(int slot) {
        held--;
        for (int i = slot; i < held; i++) {
            places[i] = places[i + 1];
            values[i] = values[i + 1];
        }
    }
}
