/** Counts the answers that are not the ones due. */
final class Due {
    private static int wrong = 0;

    private Due() {
    }

    static void same(String call, long got, long want) {
        if (got != want) {
            wrong++;
            System.out.println(call + " answered " + got + ", due is " + want);
        }
    }

    static void yes(String what, boolean holds) {
        if (!holds) {
            wrong++;
            System.out.println("does not hold: " + what);
        }
    }

    /** Holds the object to just these points, given as place, value, place, value, ... in rising order of places. */
    static void points(String when, GridFileIndex x, int... want) {
        same(when + ": size()", x.size(), want.length / 2);
        for (int i = 0; i < want.length / 2; i++) {
            int place = want[2 * i];
            same(when + ": point(0, 1023, " + i + ")", x.point(0, 1023, i), place);
            same(when + ": value at place " + place, x.valueAt(place / 32, place % 32), want[2 * i + 1]);
        }
        same(when + ": point past the last", x.point(0, 1023, want.length / 2), -2);
    }

    static void finish() {
        System.out.println(wrong == 0 ? "all answers are as due" : wrong + " answers are not as due");
        if (wrong != 0) {
            System.exit(1);
        }
    }
}
