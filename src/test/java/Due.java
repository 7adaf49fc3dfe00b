/** Counts the answers that are not the ones due. */
final class Due {
    /** One cause can make thousands of answers wrong: the first ones tell enough. */
    private static final int MOST_SHOWN = 100;

    private static int wrong = 0;
    private static int shown = 0;
    private static String sentence = "";

    private Due() {
    }

    /** What follows is a test of this sentence of the document, until the next one is named. */
    static void sentence(String section, String words) {
        sentence = "[" + section + ": \"" + words + "\"] ";
        shown = 0;
    }

    private static void wrong(String what) {
        wrong++;
        shown++;
        if (shown <= MOST_SHOWN) {
            System.out.println(sentence + what);
        }
    }

    static void same(String call, long got, long want) {
        if (got != want) {
            wrong(call + " answered " + got + ", due is " + want);
        }
    }

    static void yes(String what, boolean holds) {
        if (!holds) {
            wrong("does not hold: " + what);
        }
    }

    /** Holds the object to just these points, given as place, value, place, value, ... in rising order of places. */
    static void points(String when, GridFileIndex x, int... want) {
        same(when + ": size()", x.size(), want.length / 2);
        for (int i = 0; i < want.length / 2; i++) {
            int place = want[2 * i];
            same(when + ": point(0, 1023, " + i + ")", x.point(0, 1023, i), place);
            same(when + ": value at place " + place, x.valueAt(place / 32, place % 32), want[2 * i + 1]);
        }
        same(when + ": point past the last", x.point(0, 1023, want.length / 2), -2);
    }

    static void finish() {
        System.out.println(wrong == 0 ? "all answers are as due" : wrong + " answers are not as due");
        if (wrong != 0) {
            System.exit(1);
        }
    }
}
