import java.util.Set;
import java.util.TreeSet;
import java.util.function.Consumer;

/**
 * "An object is used for at most 512 calls after it has been made": runs of just so many calls, of every kind, each
 * answer compared with the plain face's. The promises hold behind every such run.
 */
public final class LongRunsTest {
    public static void main(String[] args) {
        Check.runAll(LongRunsTest.class);
    }

    /** Runs with some seeds, each step being made until 512 calls have been asked; what was met. */
    private static Set<String> runs(String name, int n, Consumer<LongRun> step) {
        Set<String> seen = new TreeSet<>();
        for (int seed = 0; seed < n; seed++) {
            LongRun run = new LongRun(name, seed, seen);
            while (run.goesOn()) {
                step.accept(run);
            }
        }
        return seen;
    }

    private static void met(Set<String> seen, String... due) {
        for (String what : due) {
            Check.yes("met on the way: " + what, seen.contains(what));
        }
    }

    /** Promises 1 to 21: calls of each kind, right and wrong, in any order. */
    static void promise01To21AnyCalls() {
        Set<String> seen = runs("any calls", 30, run -> {
            switch (run.below(10)) {
                case 0:
                    run.disturb();
                    break;
                case 1:
                    run.back(run.below(3));
                    break;
                case 2:
                case 3:
                case 4:
                    run.look();
                    break;
                case 5:
                    if (run.chance(12)) {
                        run.setUp(run.below(20));
                    } else if (run.chance(40)) {
                        run.ask(run.chance(2) ? "begin" : "clear");
                    }
                    break;
                default:
                    run.play();
            }
        });
        met(seen, "put IllegalStateException", "put IndexOutOfBoundsException", "put IllegalArgumentException",
                "give IllegalStateException", "give IllegalArgumentException", "start IllegalStateException",
                "start IllegalArgumentException", "at IndexOutOfBoundsException", "moves IllegalStateException",
                "move IllegalStateException", "move IndexOutOfBoundsException", "isLegal IllegalStateException",
                "result IllegalStateException", "times IllegalStateException", "play IllegalStateException",
                "play IllegalArgumentException", "back IllegalStateException", "back NoSuchElementException",
                "count IllegalStateException", "count IllegalArgumentException", "mate IllegalStateException");
    }

    /** Promises 3 to 6, and 12 to 21 behind them: one position set up after the other, each played on a little. */
    static void promise03To06OneSetUpAfterTheOther() {
        Set<String> seen = runs("set-ups", 30, run -> {
            run.setUp(run.below(run.chance(4) ? 60 : 12));
            for (int k = run.below(12); k > 0; k--) {
                run.look();
                if (run.canPlay()) {
                    run.play();
                } else {
                    run.ask("result");
                }
            }
        });
        met(seen, "start nothing", "start IllegalArgumentException", "player 0", "player 1", "result 1");
    }

    /** Promises 15 to 19: games of 150 moves, taken back a part of the way and played on another way. */
    static void promise15To19LongGames() {
        Set<String> seen = runs("long games", 25, run -> {
            if (run.canPlay()) {
                run.play();
            } else {
                run.play();
                run.ask("result");
                run.ask("made");
                run.lookAhead();
                run.back(1 + run.below(run.chance(3) ? 150 : 20));
            }
            if (run.chance(15)) {
                run.look();
            }
        });
        met(seen, "made 150", "play IllegalStateException", "result 0");
    }

    /** Promises 18 and 19: 150 moves, all of them taken back, and the same once more. */
    static void promise18To19ThereAndBackAgain() {
        Set<String> seen = runs("there and back", 12, run -> {
            while (run.goesOn() && run.canPlay()) {
                run.play();
            }
            run.ask("result");
            run.back(151);
            run.ask("times");
            run.lookAhead();
        });
        met(seen, "back NoSuchElementException");
    }

    /** Promises 15 and 16: positions that come again and again, of chases with checks among them. */
    static void promise15To16PositionsComeAgain() {
        Set<String> seen = runs("coming again", 60, run -> {
            if (!run.isGame() || run.chance(120)) {
                run.setUp(run.below(8));
            }
            if (!run.canPlay()) {
                run.ask("result");
                run.ask("times");
                run.play();
                run.back(1 + run.below(14));
            } else if (run.chance(12)) {
                run.play();
            } else {
                run.playAgain(run.below(3));
            }
            if (run.chance(6)) {
                run.ask(run.chance(2) ? "times" : "result");
            }
        });
        met(seen, "result 0", "result 1", "result 2", "result 3", "result 4", "times 1", "times 2", "times 3", "times 4");
    }

    /** Promises 20 and 21: looking ahead in between, before and behind moves that are made and taken back. */
    static void promise20To21LookingAheadInBetween() {
        Set<String> seen = runs("looking ahead", 20, run -> {
            if (run.chance(60)) {
                run.setUp(run.below(14));
            }
            run.lookAhead();
            if (run.canPlay()) {
                run.play();
            } else {
                run.back(1 + run.below(6));
            }
            if (run.chance(3)) {
                run.back(1);
                run.ask("moves");
            }
        });
        met(seen, "count 1", "mate -1", "count IllegalArgumentException");
    }
}
