/** Counts and prints the answers that are not the ones that are due. */
final class Checks {
    private static int made = 0;
    private static int wrong = 0;

    private Checks() {
    }

    static void due(String call, long got, long want) {
        made++;
        if (got != want) {
            wrong++;
            System.out.println(call + " answered " + got + ", due is " + want);
        }
    }

    static void holds(String what, boolean is) {
        made++;
        if (!is) {
            wrong++;
            System.out.println("does not hold: " + what);
        }
    }

    static void end(String test) {
        System.out.println(test + ": " + made + " checks, " + wrong + " wrong");
        // A test that checks nothing must not count as one that passes.
        if (wrong != 0 || made == 0) {
            System.exit(1);
        }
    }
}
