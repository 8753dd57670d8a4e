/** Compares answers with what is due, tells the wrong ones, and ends the test's program. */
final class Checks {
    private int wrong;
    private long made;

    void due(String call, long got, long want) {
        made++;
        if (got != want) {
            wrong++;
            System.out.println(call + " answered " + got + ", due is " + want);
        }
    }

    void holds(String what, boolean truth) {
        due(what, truth ? 1 : 0, 1);
    }

    int wrongSoFar() {
        return wrong;
    }

    void end() {
        System.out.println(made + " checks, " + wrong + " wrong");
        if (wrong != 0 || made == 0) {
            System.exit(1);
        }
    }
}
