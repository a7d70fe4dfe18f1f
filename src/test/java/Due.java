/** Compares answers with those that are due, and tells at the end whether all were right. */
final class Due {
    private static String sentence = "";
    private static int sentences = 0;
    private static int checkedHere = 0;
    private static int checked = 0;
    private static int wrong = 0;

    private Due() {
    }

    /** What follows tests this sentence of the document; a sentence without a test is a fault. */
    static void about(String words) {
        endSentence();
        sentence = words;
        sentences++;
        checkedHere = 0;
    }

    static void is(String call, int got, int want) {
        count();
        if (got != want) {
            tellWrong(call + " answered " + got + ", due is " + want);
        }
    }

    static void same(String what, String got, String want) {
        count();
        if (!got.equals(want)) {
            tellWrong(what + " is seen as " + got + ", due is " + want);
        }
    }

    static void holds(String claim, boolean held) {
        count();
        if (!held) {
            tellWrong("does not hold: " + claim);
        }
    }

    private static void count() {
        checked++;
        checkedHere++;
    }

    private static void tellWrong(String what) {
        wrong++;
        System.out.println((sentence.isEmpty() ? "" : "[" + sentence + "] ") + what);
    }

    private static void endSentence() {
        if (sentences > 0 && checkedHere == 0) {
            tellWrong("has no test");
        }
    }

    /** Ends the test with exit code 1 if an answer was wrong, or if nothing was looked at. */
    static void finish() {
        endSentence();
        String told = sentences > 0 ? sentences + " sentences, " : "";
        System.out.println(told + checked + " answers looked at, " + wrong + " wrong");
        if (wrong != 0 || checked == 0) {
            System.exit(1);
        }
    }
}
