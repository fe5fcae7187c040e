/** Counts and prints the answers that are not the ones that are due. */
final class Check {
    private final String name;
    private int answers;
    private int wrong;

    Check(String name) {
        this.name = name;
    }

    void due(String call, long got, long want) {
        answers++;
        if (got != want) {
            wrong++;
            System.out.println(name + ": " + call + " answered " + got + ", due is " + want);
        }
    }

    /** For what is no call: a condition that must hold. */
    void holds(String what, boolean condition) {
        answers++;
        if (!condition) {
            wrong++;
            System.out.println(name + ": does not hold: " + what);
        }
    }

    /** Ends the program, with 1 if an answer was wrong. */
    void end() {
        System.out.println(name + ": " + answers + " answers, " + wrong + " wrong");
        if (wrong != 0 || answers == 0) {
            System.exit(1);
        }
    }
}
