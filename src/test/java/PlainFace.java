import java.util.List;
import java.util.NoSuchElementException;

/** The whole face, each promise in the plainest words that Java has for it; slow, for comparison. */
public final class PlainFace {
    private static final int[] BACK_ROW = {2, 3, 4, 5, 8, 5, 4, 3, 2};

    private PlainShogi game;
    private boolean settingUp;
    private List<Integer> known;

    public PlainFace() {
        begin();
    }

    public void begin() {
        game = new PlainShogi();
        for (int s = 0; s < 81; s++) {
            game.squares[s] = atTheBeginning(s) - atTheBeginning(80 - s);
        }
        settingUp = false;
        known = null;
    }

    /** The kind of player 0's piece on a square at the beginning. */
    private static int atTheBeginning(int square) {
        if (square >= 72) {
            return BACK_ROW[square - 72];
        }
        return square == 64 ? 6 : square == 70 ? 7 : square >= 54 && square < 63 ? 1 : 0;
    }

    public void clear() {
        game = new PlainShogi();
        settingUp = true;
        known = null;
    }

    public int put(int square, int value) {
        mustBe(settingUp);
        mustBeSquare(square);
        int kind = value < 0 ? -value : value;
        mustBeRight(kind >= 0 && kind <= 15 && kind != 13);
        int before = game.squares[square];
        game.squares[square] = value;
        return before;
    }

    public void give(int player, int kind, int n) {
        mustBe(settingUp);
        mustBeRight(isPlayer(player) && kind >= 1 && kind <= 7 && n >= 0 && n <= 18);
        game.hands[player][kind] = n;
    }

    public void start(int player) {
        mustBe(settingUp);
        mustBeRight(isPlayer(player) && game.mayStart(player));
        game.toMove = player;
        settingUp = false;
    }

    public int at(int square) {
        mustBeSquare(square);
        return game.squares[square];
    }

    public int hand(int player, int kind) {
        return isPlayer(player) && kind >= 1 && kind <= 7 ? game.hands[player][kind] : 0;
    }

    public int player() {
        return settingUp ? -1 : game.toMove;
    }

    public boolean reaches(int player, int square) {
        return isPlayer(player) && square >= 0 && square <= 80 && game.reaches(player, square);
    }

    public boolean inCheck(int player) {
        return !settingUp && isPlayer(player) && game.inCheck(player);
    }

    public int moves() {
        mustBe(!settingUp);
        return legal().size();
    }

    public int move(int k) {
        mustBe(!settingUp);
        if (k < 0 || k >= legal().size()) {
            throw new IndexOutOfBoundsException();
        }
        return legal().get(k);
    }

    public boolean isLegal(int move) {
        mustBe(!settingUp);
        return legal().contains(move);
    }

    public int result() {
        mustBe(!settingUp);
        return game.result(legal());
    }

    public int times() {
        mustBe(!settingUp);
        return game.times();
    }

    public int play(int move) {
        mustBe(!settingUp && game.result(legal()) == 0 && game.made() < 150);
        mustBeRight(legal().contains(move));
        known = null;
        return game.play(move);
    }

    public int back() {
        mustBe(!settingUp);
        if (game.made() == 0) {
            throw new NoSuchElementException();
        }
        known = null;
        return game.back();
    }

    public int made() {
        return game.made();
    }

    public int count(int n) {
        mustBe(!settingUp);
        mustBeRight(n >= 0 && n <= 2);
        return n == 0 ? 1 : n == 1 ? legal().size() : game.countTwo(legal());
    }

    public int mate() {
        mustBe(!settingUp);
        return game.mate(legal());
    }

    /** The legal moves, found once for each position. */
    List<Integer> legal() {
        if (known == null) {
            known = game.moves();
        }
        return known;
    }

    /** How often the position behind a move was there already. */
    int timesBehind(int move) {
        return game.timesBehind(move);
    }

    boolean isCheckBehind(int move) {
        return game.behind(move).inCheck(1 - game.toMove);
    }

    private static boolean isPlayer(int player) {
        return player == 0 || player == 1;
    }

    private static void mustBe(boolean state) {
        if (!state) {
            throw new IllegalStateException();
        }
    }

    private static void mustBeSquare(int square) {
        if (square < 0 || square > 80) {
            throw new IndexOutOfBoundsException();
        }
    }

    private static void mustBeRight(boolean argument) {
        if (!argument) {
            throw new IllegalArgumentException();
        }
    }
}
