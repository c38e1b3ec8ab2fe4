/** Counts and prints the answers that are not the ones that are due. */
final class Checks {
    private static int made = 0;
    private static int wrong = 0;
    private static int madeBefore = 0;
    private static String sentence = "";

    private Checks() {
    }

    /** Names the sentence of the document that the checks from here on belong to. */
    static void about(String words) {
        closeSentence();
        madeBefore = made;
        sentence = words;
    }

    static void due(String call, long got, long want) {
        made++;
        if (got != want) {
            complain(call + " answered " + got + ", due is " + want);
        }
    }

    static void holds(String what, boolean is) {
        made++;
        if (!is) {
            complain("does not hold: " + what);
        }
    }

    static void end(String test) {
        closeSentence();
        System.out.println(test + ": " + made + " checks, " + wrong + " wrong");
        // A test that checks nothing must not count as one that passes.
        if (wrong != 0 || made == 0) {
            System.exit(1);
        }
    }

    private static void closeSentence() {
        if (!sentence.isEmpty() && made == madeBefore) {
            complain("no check stands under this sentence");
        }
    }

    private static void complain(String text) {
        wrong++;
        System.out.println(sentence.isEmpty() ? text : "[" + sentence + "] " + text);
    }
}
