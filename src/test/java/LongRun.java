import java.util.List;
import java.util.Random;
import java.util.Set;

/** A run of as many calls as an object is used for, by a fixed seed; each answer is compared with the plain face's. */
final class LongRun {
    static final int CALLS = 512;

    private static final List<String> LOOKS = List.of("at", "hand", "player", "reaches", "inCheck", "moves", "move",
            "isLegal", "result", "times", "made", "mate");
    private static final List<String> CHANGES = List.of("begin", "clear", "put", "give", "start", "play", "back");
    private static final int[] ODD_NUMBERS = {-1, -2, -8, -13, -15, -16, 13, 16, 18, 19, 81, 82, 88, 89, 127, 128, 150,
        256, 512, 16384, 65536, -65536, Integer.MAX_VALUE, Integer.MIN_VALUE};
    // Counting two moves ahead is slow in its plain form: only where there are few of them.
    private static final int MOST_COUNTED = 45;

    final PlainFace plain = new PlainFace();
    private final DroppedPieces x = new DroppedPieces();
    private final Random random;
    private final String name;
    private final Set<String> seen;
    private int calls;
    private boolean failed;

    /** The set gets what was met on the way: "play IllegalStateException", "result 3", "made 150". */
    LongRun(String name, int seed, Set<String> seen) {
        this.name = name + " " + seed;
        this.seen = seen;
        random = new Random(seed);
    }

    boolean goesOn() {
        return calls < CALLS && !failed;
    }

    /** One in so many times. */
    boolean chance(int oneIn) {
        return random.nextInt(oneIn) == 0;
    }

    int below(int n) {
        return random.nextInt(n);
    }

    String ask(String call, int... arguments) {
        if (!goesOn()) {
            return "";
        }
        calls++;
        String due = Call.answer(plain, call, arguments);
        String got = Call.answer(x, call, arguments);
        Check.same(name + ", call " + calls + ": " + Call.text(call, arguments), got, due);
        failed = !got.equals(due);
        seen.add(call + " " + due);
        return due;
    }

    /** Looks at something, seldom with a number that is wrong. */
    void look() {
        if (chance(12)) {
            lookAhead();
            return;
        }
        String call = LOOKS.get(below(LOOKS.size()));
        switch (call) {
            case "at":
                ask(call, number(81));
                break;
            case "hand":
                ask(call, number(2), number(9));
                break;
            case "reaches":
                ask(call, number(2), number(81));
                break;
            case "inCheck":
                ask(call, number(2));
                break;
            case "move":
                ask(call, number(isGame() ? plain.legal().size() + 1 : 1));
                break;
            case "isLegal":
                ask(call, anyMove());
                break;
            default:
                ask(call);
        }
    }

    void lookAhead() {
        ask("count", number(isGame() && plain.legal().size() < MOST_COUNTED ? 3 : 2));
        ask("mate");
    }

    /** Any call that may change something, with numbers that are mostly wrong. */
    void disturb() {
        String call = CHANGES.get(2 + below(CHANGES.size() - 2));
        int[] arguments = new int[Call.arguments(call)];
        for (int k = 0; k < arguments.length; k++) {
            arguments[k] = chance(3) ? number(9) : ODD_NUMBERS[below(ODD_NUMBERS.length)];
        }
        ask(call, arguments);
    }

    /** Mostly one of 0 .. n - 1, else a number that is seldom right. */
    private int number(int n) {
        return chance(15) ? ODD_NUMBERS[below(ODD_NUMBERS.length)] : below(n);
    }

    private int anyMove() {
        if (isGame() && !plain.legal().isEmpty() && chance(2)) {
            return legalMove() ^ (chance(3) ? 16384 : 0);
        }
        return number(89) + 128 * below(81) + 16384 * below(2);
    }

    boolean isGame() {
        return plain.player() >= 0;
    }

    /** Whether a move can be made. */
    boolean canPlay() {
        return isGame() && plain.made() < 150 && plain.result() == 0;
    }

    private int legalMove() {
        return plain.legal().get(below(plain.legal().size()));
    }

    void play() {
        ask("play", isGame() && !plain.legal().isEmpty() ? legalMove() : anyMove());
    }

    /** Plays what leads to the position that was there most often; a checker takes a check if there is one. */
    void playAgain(int checker) {
        List<Integer> moves = plain.legal();
        int best = legalMove();
        int most = worth(best, checker);
        for (int move : moves) {
            int worth = worth(move, checker);
            if (worth > most) {
                best = move;
                most = worth;
            }
        }
        ask("play", best);
    }

    private int worth(int move, int checker) {
        boolean check = plain.player() == checker && plain.isCheckBehind(move);
        return plain.timesBehind(move) + (check ? 10 : 0);
    }

    /** Takes back so many moves. */
    void back(int n) {
        for (int k = 0; k < n && goesOn(); k++) {
            ask("back");
        }
    }

    /** Sets a position up with some pieces, and starts; when that is refused, mends it or begins anew. */
    void setUp(int pieces) {
        ask("clear");
        ask("put", below(36), -8);
        ask("put", 45 + below(36), 8);
        for (int k = 0; k < pieces && goesOn(); k++) {
            putPiece();
        }
        for (int k = below(4); k > 0; k--) {
            ask("give", below(2), 1 + below(7), below(19));
        }
        for (int k = 0; k < 6 && !isGame() && goesOn(); k++) {
            ask("start", below(2));
            if (!isGame()) {
                removePiece();
            }
        }
        if (!isGame()) {
            ask("begin");
        }
    }

    private void putPiece() {
        int kind = 1 + below(15);
        int square = below(81);
        if (kind != 13 && (kind != 8 || chance(20)) && Math.abs(plain.at(square)) != 8) {
            ask("put", square, chance(2) ? kind : -kind);
        }
    }

    /** Takes one piece away that is no king; a second king too. */
    private void removePiece() {
        int first = below(81);
        int kings = 0;
        for (int k = 0; k < 81; k++) {
            int square = (first + k) % 81;
            int value = plain.at(square);
            if (value != 0 && (Math.abs(value) != 8 || ++kings > 2)) {
                ask("put", square, 0);
                return;
            }
        }
    }
}
