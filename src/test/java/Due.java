/** Compares answers with those that are due, and tells at the end whether all were right. */
final class Due {
    private static int checked = 0;
    private static int wrong = 0;

    private Due() {
    }

    static void is(String call, int got, int want) {
        checked++;
        if (got != want) {
            wrong++;
            System.out.println(call + " answered " + got + ", due is " + want);
        }
    }

    static void holds(String claim, boolean held) {
        checked++;
        if (!held) {
            wrong++;
            System.out.println("does not hold: " + claim);
        }
    }

    /** Ends the test with exit code 1 if an answer was wrong, or if nothing was looked at. */
    static void finish() {
        System.out.println(checked + " answers looked at, " + wrong + " wrong");
        if (wrong != 0 || checked == 0) {
            System.exit(1);
        }
    }
}
