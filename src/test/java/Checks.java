/** Counts and prints the answers that are not the ones that are due. */
final class Checks {
    private int wrong = 0;
    private int made = 0;

    void due(String call, long got, long want) {
        made++;
        if (got != want) {
            wrong++;
            System.out.println(call + " answered " + got + ", due is " + want);
        }
    }

    void holds(String what, boolean isSo) {
        made++;
        if (!isSo) {
            wrong++;
            System.out.println("does not hold: " + what);
        }
    }

    int made() {
        return made;
    }

    boolean failed() {
        return wrong != 0;
    }

    void end() {
        // A test that checks nothing must not count as a test that passes.
        if (made == 0) {
            System.out.println("nothing was checked");
            System.exit(1);
        }
        System.out.println(made + " checks, " + wrong + " wrong");
        if (wrong != 0) {
            System.exit(1);
        }
    }
}
