/** Counts what the tests find; a test class ends with ended(). */
final class Checks {
    interface Call {
        Object answer();
    }

    private final String of;
    private int passed;
    private int failed;

    Checks(String of) {
        this.of = of;
    }

    void same(String what, Object got, Object want) {
        boolean right = got instanceof Number && want instanceof Number
                ? sameNumber((Number) got, (Number) want) : got.equals(want);
        if (right) {
            passed++;
        } else {
            failed++;
            System.out.println(of + ": " + what + " answered " + got + ", due is " + want);
        }
    }

    /** The very class is asked for: one exception must not stand in for another. */
    void refused(String what, Class<? extends Exception> want, Call call) {
        same(what, outcome(call), want.getName());
    }

    /** The answer, or the name of the exception's class. */
    static Object outcome(Call call) {
        try {
            return call.answer();
        } catch (RuntimeException e) {
            return e.getClass().getName();
        }
    }

    void ended() {
        System.out.println(of + ": " + passed + " checks passed, " + failed + " failed");
        if (failed > 0 || passed == 0) {
            System.exit(1);
        }
    }

    private static boolean sameNumber(Number got, Number want) {
        if (got instanceof Double || want instanceof Double) {
            return got.doubleValue() == want.doubleValue();
        }
        return got.longValue() == want.longValue();
    }
}
