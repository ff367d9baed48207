import java.lang.reflect.InvocationTargetException;
import java.lang.reflect.Method;
import java.lang.reflect.Modifier;
import java.util.Comparator;
import java.util.List;
import java.util.stream.Stream;

/** Compares answers with those that are due, and tells at the end whether one was wrong. */
final class Check {
    private static int wrong = 0;
    private static int compared = 0;

    private Check() {
    }

    static void same(String what, long got, long due) {
        same(what, Long.toString(got), Long.toString(due));
    }

    static void same(String what, String got, String due) {
        compared++;
        if (!got.equals(due)) {
            wrong++;
            System.out.println(what + " answered " + got + ", due is " + due);
        }
    }

    static void yes(String what, boolean got) {
        same(what, got ? 1 : 0, 1);
    }

    static void no(String what, boolean got) {
        same(what, got ? 1 : 0, 0);
    }

    static void fails(String what, Class<? extends RuntimeException> due, Runnable call) {
        compared++;
        Class<?> got = null;
        try {
            call.run();
        } catch (RuntimeException e) {
            got = e.getClass();
        }
        if (got != due) {
            wrong++;
            System.out.println(what + " threw " + got + ", due is " + due);
        }
    }

    static void state(String what, Runnable call) {
        fails(what, IllegalStateException.class, call);
    }

    static void argument(String what, Runnable call) {
        fails(what, IllegalArgumentException.class, call);
    }

    static void index(String what, Runnable call) {
        fails(what, IndexOutOfBoundsException.class, call);
    }

    static boolean anyWrong() {
        return wrong > 0;
    }

    /** Runs each test of a class: its methods whose names begin with the number of the promise that they test. */
    static void runAll(Class<?> tests) {
        List<Method> all = Stream.of(tests.getDeclaredMethods())
                .filter(m -> m.getName().matches("promise[0-9][0-9].*") && Modifier.isStatic(m.getModifiers()))
                .sorted(Comparator.comparing(Method::getName)).toList();
        for (Method test : all) {
            run(test);
        }
        System.out.println("     " + all.size() + " tests of promises in " + tests.getSimpleName());
        end();
    }

    private static void run(Method test) {
        int wrongBefore = wrong;
        int comparedBefore = compared;
        try {
            test.invoke(null);
        } catch (InvocationTargetException e) {
            wrong++;
            e.getCause().printStackTrace(System.out);
        } catch (IllegalAccessException e) {
            wrong++;
            System.out.println(test.getName() + " can't be run");
        }
        if (compared == comparedBefore) {
            wrong++;
            System.out.println(test.getName() + " compares nothing");
        }
        if (wrong > wrongBefore) {
            System.out.println("FAIL " + test.getName());
        }
    }

    static void end() {
        if (wrong > 0 || compared == 0) {
            System.out.println(wrong + " of " + compared + " answers were wrong");
            System.exit(1);
        }
    }
}
