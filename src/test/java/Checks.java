/** Counts answers that are as due and prints those that are not. */
final class Checks {
    private int asDue;
    private int wrong;

    void due(String call, long got, long want) {
        if (got == want) {
            asDue++;
        } else {
            wrong++;
            System.out.println(call + " answered " + got + ", due is " + want);
        }
    }

    void holds(String what, boolean held) {
        due(what + " (1: it holds)", held ? 1 : 0, 1);
    }

    boolean failed() {
        return wrong > 0;
    }

    /** Ends the test: with exit code 1 if an answer was wrong, or if nothing was looked at. */
    void end(String name) {
        System.out.println(name + ": " + asDue + " as due, " + wrong + " not");
        if (wrong > 0 || asDue == 0) {
            System.exit(1);
        }
    }
}
