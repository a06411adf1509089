/** Collects the answers that are not the due ones; a test ends with exit code 1 if there was one. */
final class Checks {
    private final String test;
    private int done = 0;
    private int wrong = 0;

    Checks(String test) {
        this.test = test;
    }

    void due(String call, int got, int want) {
        done++;
        if (got != want) {
            wrong++;
            System.out.println(test + ": " + call + " answered " + got + ", due is " + want);
        }
    }

    void holds(String what, boolean truth) {
        done++;
        if (!truth) {
            wrong++;
            System.out.println(test + ": does not hold: " + what);
        }
    }

    boolean failed() {
        return wrong > 0;
    }

    void end() {
        System.out.println(test + ": " + done + " checks, " + wrong + " wrong");
        if (wrong > 0 || done == 0) {
            System.exit(1);
        }
    }
}
