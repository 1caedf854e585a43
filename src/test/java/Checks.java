/** Counts and prints the answers that are not the ones due. */
final class Checks {
    private final String test;
    private int wrong = 0;

    Checks(String test) {
        this.test = test;
    }

    void due(String call, long got, long want) {
        if (got != want) {
            fault(call + " answered " + got + ", due is " + want);
        }
    }

    void due(String call, boolean got, boolean want) {
        if (got != want) {
            fault(call + " answered " + got + ", due is " + want);
        }
    }

    void fault(String what) {
        wrong++;
        System.out.println(test + ": " + what);
    }

    int wrong() {
        return wrong;
    }

    void finish() {
        if (wrong != 0) {
            System.exit(1);
        }
    }
}
