/** Counts the answers that are not as due, and ends a test with exit code 1 if there was one. */
final class Checks {
    interface Call {
        void run();
    }

    private final String test;
    private int made;
    private int wrong;

    Checks(String test) {
        this.test = test;
    }

    void due(String what, long got, long want) {
        made++;
        if (got != want) {
            wrong++;
            System.out.println(test + ": " + what + " answered " + got + ", due is " + want);
        }
    }

    void due(String what, boolean got, boolean want) {
        due(what, got ? 1 : 0, want ? 1 : 0);
    }

    void dueBytes(String what, byte[] got, byte[] want) {
        due(what + ": how many bytes", got.length, want.length);
        for (int i = 0; i < Math.min(got.length, want.length); i++) {
            if (got[i] != want[i]) {
                due(what + ": byte " + i, got[i] & 255, want[i] & 255);
                return;
            }
        }
    }

    /** The very class is due: a class above or below it is as wrong as none. */
    void dueThrow(String what, Class<?> want, Call call) {
        made++;
        Class<?> got = thrownBy(call);
        if (got != want) {
            wrong++;
            System.out.println(test + ": " + what + " threw " + got + ", due is " + want);
        }
    }

    static Class<?> thrownBy(Call call) {
        try {
            call.run();
            return null;
        } catch (RuntimeException e) {
            return e.getClass();
        }
    }

    boolean clean() {
        return wrong == 0;
    }

    void finish() {
        System.out.println(test + ": " + made + " answers, " + wrong + " not as due");
        if (wrong != 0) {
            System.exit(1);
        }
    }
}
