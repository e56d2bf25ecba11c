import java.util.Objects;

/** Counts the answers that are not as due, and ends a test. */
final class Check {
    interface Call {
        Object answer();
    }

    private final String test;
    private int checks;
    private int wrong;

    Check(String test) {
        this.test = test;
    }

    void is(String what, Object want, Object got) {
        checks++;
        if (!Objects.equals(want, got)) {
            wrong++;
            System.out.println(test + ": " + what + " answered " + got + ", due is " + want);
        }
    }

    /** The exception has to be of this very class: those of the Java machine itself are below it. */
    void fails(String what, Class<? extends RuntimeException> want, Call call) {
        is(what, "throws " + want.getSimpleName(), outcome(call));
    }

    static Object outcome(Call call) {
        try {
            return call.answer();
        } catch (RuntimeException e) {
            return "throws " + e.getClass().getSimpleName();
        }
    }

    void end() {
        System.out.println(test + ": " + checks + " checks, " + wrong + " wrong");
        if (wrong != 0) {
            System.exit(1);
        }
    }
}
