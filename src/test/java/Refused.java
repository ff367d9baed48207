import java.util.List;
import java.util.TreeSet;
import java.util.function.Consumer;
import java.util.function.Supplier;

/** Calls that are refused, or that only look: behind them all that the face shows is as it was before. */
final class Refused {
    private Refused() {
    }

    @SafeVarargs
    static void state(String what, List<Scene> scenes, Consumer<DroppedPieces>... calls) {
        in(what, scenes, IllegalStateException.class, calls);
    }

    @SafeVarargs
    static void argument(String what, List<Scene> scenes, Consumer<DroppedPieces>... calls) {
        in(what, scenes, IllegalArgumentException.class, calls);
    }

    @SafeVarargs
    static void index(String what, List<Scene> scenes, Consumer<DroppedPieces>... calls) {
        in(what, scenes, IndexOutOfBoundsException.class, calls);
    }

    @SafeVarargs
    static void in(String what, List<Scene> scenes, Class<? extends RuntimeException> due,
            Consumer<DroppedPieces>... calls) {
        for (Scene scene : scenes) {
            String name = scene + ": " + what;
            unchanged(name, scene, x -> {
                for (int k = 0; k < calls.length; k++) {
                    Consumer<DroppedPieces> call = calls[k];
                    Check.fails(name + " (" + k + ")", due, () -> call.accept(x));
                }
            });
        }
    }

    /** Refused for each of some numbers. */
    static void each(String what, List<Scene> scenes, Class<? extends RuntimeException> due, int[] numbers,
            Call call) {
        for (Scene scene : scenes) {
            unchanged(scene + ": " + what, scene, x -> {
                for (int number : numbers) {
                    Check.fails(scene + ": " + what + " " + number, due, () -> call.with(x, number));
                }
            });
        }
    }

    /** Some calls leave all that the face shows as it was. */
    static void unchanged(String what, Scene scene, Consumer<DroppedPieces> calls) {
        unchanged(what, scene::make, scene.view(), calls);
    }

    static void unchanged(String what, Supplier<DroppedPieces> make, Consumer<DroppedPieces> calls) {
        unchanged(what, make, View.of(make), calls);
    }

    private static void unchanged(String what, Supplier<DroppedPieces> make, String before,
            Consumer<DroppedPieces> calls) {
        String got = View.of(() -> {
            DroppedPieces x = make.get();
            calls.accept(x);
            return x;
        });
        Check.same(what + ": change", View.difference(got, before), "");
    }

    /** A call with a number. */
    interface Call {
        void with(DroppedPieces x, int number);
    }

    /**
     * Numbers outside of low .. high: just outside, far outside, the smallest and the largest int, and such as would
     * be right if higher bits were cut off.
     */
    static int[] outside(int low, int high) {
        TreeSet<Integer> numbers = new TreeSet<>(List.of(low - 1, low - 2, high + 1, high + 2, -high - 1, -high, 127,
                -128, 1000, -1000, 1000000, -1000000, Integer.MIN_VALUE, Integer.MIN_VALUE + 1, Integer.MAX_VALUE,
                Integer.MAX_VALUE - 1));
        for (int bit : new int[] {7, 8, 15, 16, 24, 31}) {
            numbers.addAll(List.of(low + (1 << bit), high + (1 << bit), low - (1 << bit), high - (1 << bit)));
        }
        return numbers.stream().mapToInt(n -> n).filter(n -> n < low || n > high).toArray();
    }
}
