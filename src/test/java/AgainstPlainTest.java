import java.util.List;
import java.util.Random;

/** Positions and games made by a fixed seed, every answer compared with the plain rules' answer. */
public final class AgainstPlainTest {
    private static final int GAMES = 700;
    private static final int MOST_PLAYED = 20;

    private final Random random;
    private final DroppedPieces x = new DroppedPieces();
    private final PlainShogi plain = new PlainShogi();
    private final String name;
    private int latest = -1;
    private int secondLatest = -1;

    private AgainstPlainTest(int seed) {
        random = new Random(seed);
        name = "game " + seed;
    }

    public static void main(String[] args) {
        int[] results = new int[5];
        int mates = 0;
        for (int seed = 0; seed < GAMES && !Check.anyWrong(); seed++) {
            AgainstPlainTest game = new AgainstPlainTest(seed);
            if (game.setUp()) {
                mates += game.run(results);
            }
        }
        System.out.println("     results seen: " + java.util.Arrays.toString(results) + ", mates in one: " + mates);
        Check.yes("every result but for the last two was seen", results[0] > 0 && results[1] > 0 && results[2] > 0);
        Check.yes("mates were seen", mates > 0);
        Check.end();
    }

    private boolean setUp() {
        x.clear();
        int pieces = random.nextInt(4) == 0 ? random.nextInt(70) : random.nextInt(14);
        putPiece(8, random.nextInt(81));
        for (int k = 0; k < 20 && kings() < 2; k++) {
            putPiece(-8, random.nextInt(81));
        }
        for (int k = 0; k < pieces; k++) {
            int kind = 1 + random.nextInt(15);
            if (kind != 8 && kind != 13) {
                putPiece(random.nextBoolean() ? kind : -kind, random.nextInt(81));
            }
        }
        for (int k = random.nextInt(6); k > 0; k--) {
            int player = random.nextInt(2);
            int kind = random.nextBoolean() ? 1 : 1 + random.nextInt(7);
            int n = random.nextInt(4);
            x.give(player, kind, n);
            plain.hands[player][kind] = n;
        }
        compareReach();
        plain.toMove = random.nextInt(2);
        return started();
    }

    private int kings() {
        int n = 0;
        for (int value : plain.squares) {
            n += Math.abs(value) == 8 ? 1 : 0;
        }
        return n;
    }

    private void putPiece(int value, int square) {
        if (plain.squares[square] == 0) {
            Check.same(name + " put", x.put(square, value), 0);
            plain.squares[square] = value;
        }
    }

    private boolean started() {
        boolean due = plain.mayStart(plain.toMove);
        boolean got = true;
        try {
            x.start(plain.toMove);
        } catch (IllegalArgumentException e) {
            got = false;
        }
        Check.same(name + " starts", got ? 1 : 0, due ? 1 : 0);
        return due;
    }

    private int run(int[] results) {
        int mates = 0;
        for (int k = 0; k < MOST_PLAYED; k++) {
            List<Integer> moves = plain.moves();
            mates += compareAnswers(moves, k % 10 == 0);
            int result = plain.result(moves);
            results[result]++;
            if (result != 0) {
                int any = moves.isEmpty() ? 0 : moves.get(0);
                Check.state(name + " play when over", () -> x.play(any));
            }
            if (Check.anyWrong() || result != 0 && plain.made() == 0) {
                return mates;
            }
            if (result != 0 || plain.made() > 0 && random.nextInt(12) == 0) {
                Check.same(name + " back()", x.back(), plain.back());
            } else {
                playOne(moves);
            }
        }
        comparePosition();
        return mates;
    }

    private void comparePosition() {
        for (int s = 0; s < 81; s++) {
            Check.same(name + " at(" + s + ")", x.at(s), plain.squares[s]);
        }
        for (int kind = 1; kind < 8; kind++) {
            Check.same(name + " hand(0, " + kind + ")", x.hand(0, kind), plain.hands[0][kind]);
            Check.same(name + " hand(1, " + kind + ")", x.hand(1, kind), plain.hands[1][kind]);
        }
    }

    private void playOne(List<Integer> moves) {
        int move = moves.get(random.nextInt(moves.size()));
        // Often the way back, so that positions come again.
        if (secondLatest >= 0 && random.nextInt(3) > 0) {
            int there = secondLatest % 128 + 128 * (secondLatest / 128 % 128);
            int home = there / 128 + 128 * (there % 128);
            move = moves.contains(home) ? home : move;
        }
        Check.same(name + " play(" + move + ")", x.play(move), plain.play(move));
        secondLatest = latest;
        latest = move;
    }

    private int compareAnswers(List<Integer> moves, boolean countTwo) {
        Check.same(name + " moves()", x.moves(), moves.size());
        int k = moves.isEmpty() ? 0 : random.nextInt(moves.size());
        for (int j = k; j < moves.size() && j < k + 2; j++) {
            Check.same(name + " move(" + j + ")", x.move(j), moves.get(j));
        }
        int tried = random.nextInt(89) + 128 * random.nextInt(81) + 16384 * random.nextInt(2);
        Check.same(name + " isLegal(" + tried + ")", x.isLegal(tried) ? 1 : 0, moves.contains(tried) ? 1 : 0);
        Check.same(name + " times()", x.times(), plain.times());
        Check.same(name + " result()", x.result(), plain.result(moves));
        Check.same(name + " made()", x.made(), plain.made());
        Check.same(name + " inCheck(0)", x.inCheck(0) ? 1 : 0, plain.inCheck(0) ? 1 : 0);
        Check.same(name + " inCheck(1)", x.inCheck(1) ? 1 : 0, plain.inCheck(1) ? 1 : 0);
        if (!countTwo) {
            return 0;
        }
        compareAllMoves(moves);
        if (moves.size() < 60) {
            Check.same(name + " count(2)", x.count(2), plain.countTwo(moves));
        }
        int mate = plain.mate(moves);
        Check.same(name + " mate()", x.mate(), mate);
        return mate < 0 ? 0 : 1;
    }

    /** On an object of its own, since one is used for at most 512 calls. */
    private void compareAllMoves(List<Integer> moves) {
        DroppedPieces other = new DroppedPieces();
        other.clear();
        for (int s = 0; s < 81; s++) {
            other.put(s, plain.squares[s]);
        }
        for (int kind = 1; kind < 8; kind++) {
            other.give(0, kind, plain.hands[0][kind]);
            other.give(1, kind, plain.hands[1][kind]);
        }
        other.start(plain.toMove);
        for (int k = 0; k < moves.size() && k < 380; k++) {
            Check.same(name + " move(" + k + ")", other.move(k), moves.get(k));
        }
    }

    private void compareReach() {
        DroppedPieces other = new DroppedPieces();
        other.clear();
        for (int s = 0; s < 81; s++) {
            other.put(s, plain.squares[s]);
        }
        for (int s = 0; s < 81; s++) {
            for (int player = 0; player < 2; player++) {
                Check.same(name + " reaches(" + player + ", " + s + ")", other.reaches(player, s) ? 1 : 0,
                        plain.reaches(player, s) ? 1 : 0);
            }
        }
    }
}
