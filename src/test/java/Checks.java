import java.util.function.IntSupplier;

/** What the tests share: each answer that is not the one that is due is printed and counted. */
final class Checks {
    private static int wrong = 0;
    private static int made = 0;

    private Checks() {
    }

    static void due(String call, Object want, Object got) {
        made++;
        if (!want.equals(got)) {
            wrong++;
            if (wrong <= 40) {
                System.out.println(call + " answered " + got + ", due is " + want);
            }
        }
    }

    static void is(String call, int want, IntSupplier got) {
        due(call, Integer.toString(want), answer(got));
    }

    static void ends(String call, Runnable got) {
        due(call, "0", answer(got));
    }

    static void fails(String call, Class<? extends RuntimeException> want, IntSupplier got) {
        due(call, want.getSimpleName(), answer(got));
    }

    static void fails(String call, Class<? extends RuntimeException> want, Runnable got) {
        due(call, want.getSimpleName(), answer(got));
    }

    /** The number that a call answers, or the exception's name. */
    static String answer(IntSupplier call) {
        try {
            return Integer.toString(call.getAsInt());
        } catch (RuntimeException e) {
            return e.getClass().getSimpleName();
        }
    }

    static String answer(Runnable call) {
        return answer(() -> {
            call.run();
            return 0;
        });
    }

    static int wrongSoFar() {
        return wrong;
    }

    static void end() {
        System.out.println(made + " answers, " + wrong + " not as due");
        if (wrong != 0) {
            System.exit(1);
        }
    }
}
