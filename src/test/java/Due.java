/** Holds answers beside what is due, prints those that differ, and ends the test. */
final class Due {
    private final String test;
    private int asked;
    private int wrong;

    Due(String test) {
        this.test = test;
    }

    void is(String what, int got, int want) {
        asked++;
        if (got != want) {
            wrong++;
            System.out.println(test + ": " + what + " answered " + got + ", due is " + want);
        }
    }

    void holds(String what, boolean so) {
        is(what, so ? 1 : 0, 1);
    }

    void end() {
        System.out.println(test + ": " + asked + " answers, " + wrong + " not as due");
        if (wrong != 0) {
            System.exit(1);
        }
    }

    /** A new object with routines of these frames. */
    static StackDepths with(int... frames) {
        StackDepths x = new StackDepths();
        for (int frame : frames) {
            x.routine(frame);
        }
        return x;
    }
}
