/** Counts answers that are not as due, and prints them. */
final class Check {
    private final String test;
    private int looked = 0;
    private int wrong = 0;

    Check(String test) {
        this.test = test;
    }

    void due(String call, long got, long want) {
        looked++;
        if (got != want) {
            wrong++;
            System.out.println(test + ": " + call + " answered " + got + ", due is " + want);
        }
    }

    void holds(String what, boolean holds) {
        looked++;
        if (!holds) {
            wrong++;
            System.out.println(test + ": does not hold: " + what);
        }
    }

    void close() {
        System.out.println(test + ": " + looked + " answers, " + wrong + " of them not as due");
        if (wrong != 0 || looked == 0) {
            System.exit(1);
        }
    }
}
