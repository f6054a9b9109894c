/** Counts the answers that are not as due, and ends a test with exit code 1 if there was one. */
final class Checks {
    interface Call {
        void run();
    }

    private final String test;
    private String label = "";
    private int made;
    private int wrong;

    Checks(String test) {
        this.test = test;
    }

    /** What is looked at from now on, for the lines that tell of a wrong answer. */
    void about(String what) {
        label = what + ": ";
    }

    void due(String what, long got, long want) {
        made++;
        if (got != want) {
            tell(what + " answered " + got + ", due is " + want);
        }
    }

    void due(String what, boolean got, boolean want) {
        due(what, got ? 1 : 0, want ? 1 : 0);
    }

    void due(String what, String got, String want) {
        made++;
        if (!got.equals(want)) {
            tell(what + " is \"" + got + "\", due is \"" + want + "\"");
        }
    }

    /** The very class is due: a class above or below it is as wrong as none. */
    void dueThrow(String what, Class<?> want, Call call) {
        made++;
        Class<?> got = thrownBy(call);
        if (got != want) {
            tell(what + " threw " + got + ", due is " + want);
        }
    }

    static Class<?> thrownBy(Call call) {
        try {
            call.run();
            return null;
        } catch (RuntimeException e) {
            return e.getClass();
        }
    }

    /** A test that cannot go on. */
    void broken(Throwable why) {
        tell("ended by " + why + " at " + why.getStackTrace()[0]);
    }

    private void tell(String line) {
        wrong++;
        System.out.println(test + ": " + label + line);
    }

    int wrong() {
        return wrong;
    }

    boolean clean() {
        return wrong == 0;
    }

    void finish() {
        System.out.println(test + ": " + made + " answers, " + wrong + " not as due");
        if (wrong != 0) {
            System.exit(1);
        }
    }
}
