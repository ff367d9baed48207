/** Compares answers with those that are due, and tells at the end whether one was wrong. */
final class Check {
    private static int wrong = 0;
    private static int compared = 0;

    private Check() {
    }

    static void same(String what, long got, long due) {
        compared++;
        if (got != due) {
            wrong++;
            System.out.println(what + " answered " + got + ", due is " + due);
        }
    }

    static void yes(String what, boolean got) {
        same(what, got ? 1 : 0, 1);
    }

    static void no(String what, boolean got) {
        same(what, got ? 1 : 0, 0);
    }

    static void fails(String what, Class<? extends RuntimeException> due, Runnable call) {
        compared++;
        Class<?> got = null;
        try {
            call.run();
        } catch (RuntimeException e) {
            got = e.getClass();
        }
        if (got != due) {
            wrong++;
            System.out.println(what + " threw " + got + ", due is " + due);
        }
    }

    static void state(String what, Runnable call) {
        fails(what, IllegalStateException.class, call);
    }

    static void argument(String what, Runnable call) {
        fails(what, IllegalArgumentException.class, call);
    }

    static void index(String what, Runnable call) {
        fails(what, IndexOutOfBoundsException.class, call);
    }

    static boolean anyWrong() {
        return wrong > 0;
    }

    static void end() {
        if (wrong > 0 || compared == 0) {
            System.out.println(wrong + " of " + compared + " answers were wrong");
            System.exit(1);
        }
    }
}
