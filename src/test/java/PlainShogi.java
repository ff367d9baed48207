import java.util.ArrayList;
import java.util.Arrays;
import java.util.List;

/** The document's rules in their plainest form, slow, for comparison: every number is tried as a move. */
final class PlainShogi {
    int[] squares = new int[81];
    int[][] hands = new int[2][8];
    int toMove;
    private final List<PlainShogi> before = new ArrayList<>();
    private final List<Integer> made = new ArrayList<>();
    private final List<Boolean> checks = new ArrayList<>();

    private PlainShogi copy() {
        PlainShogi other = new PlainShogi();
        other.squares = squares.clone();
        other.hands = new int[][] {hands[0].clone(), hands[1].clone()};
        other.toMove = toMove;
        return other;
    }

    private static int owner(int value) {
        return value > 0 ? 0 : value < 0 ? 1 : -1;
    }

    private boolean clearBetween(int from, int to) {
        int dr = Integer.signum(to / 9 - from / 9);
        int dc = Integer.signum(to % 9 - from % 9);
        for (int s = from + 9 * dr + dc; s != to; s += 9 * dr + dc) {
            if (squares[s] != 0) {
                return false;
            }
        }
        return true;
    }

    /** Whether the piece on a square moves to another, whoever stands there. */
    boolean goes(int from, int to) {
        int value = squares[from];
        if (value == 0 || from == to) {
            return false;
        }
        int ahead = (from / 9 - to / 9) * (value > 0 ? 1 : -1);
        int aside = Math.abs(to % 9 - from % 9);
        boolean near = Math.abs(ahead) <= 1 && aside <= 1;
        boolean straight = ahead == 0 || aside == 0;
        boolean diagonal = Math.abs(ahead) == aside;
        switch (Math.abs(value)) {
            case 1: return ahead == 1 && aside == 0;
            case 2: return ahead > 0 && aside == 0 && clearBetween(from, to);
            case 3: return ahead == 2 && aside == 1;
            case 4: return near && (diagonal || ahead == 1);
            case 5: case 9: case 10: case 11: case 12: return near && (straight || ahead == 1);
            case 6: return diagonal && clearBetween(from, to);
            case 7: return straight && clearBetween(from, to);
            case 8: return near;
            case 14: return near || diagonal && clearBetween(from, to);
            case 15: return near || straight && clearBetween(from, to);
            default: return false;
        }
    }

    boolean reaches(int player, int square) {
        for (int from = 0; from < 81; from++) {
            if (owner(squares[from]) == player && goes(from, square)) {
                return true;
            }
        }
        return false;
    }

    boolean inCheck(int player) {
        for (int s = 0; s < 81; s++) {
            if (squares[s] == (player == 0 ? 8 : -8)) {
                return reaches(1 - player, s);
            }
        }
        return false;
    }

    /** Whether a game may begin with the squares, a player being to move. */
    boolean mayStart(int player) {
        int[] kings = new int[2];
        int[][] pawns = new int[2][9];
        for (int s = 0; s < 81; s++) {
            int kind = Math.abs(squares[s]);
            if (kind == 0) {
                continue;
            }
            int owner = owner(squares[s]);
            if (neverMovesOn(kind, owner, s) || kind == 1 && ++pawns[owner][s % 9] > 1) {
                return false;
            }
            kings[owner] += kind == 8 ? 1 : 0;
        }
        return kings[0] == 1 && kings[1] == 1 && !inCheck(1 - player);
    }

    private static boolean neverMovesOn(int kind, int player, int square) {
        int left = player == 0 ? square / 9 : 8 - square / 9;
        return (kind == 1 || kind == 2) && left == 0 || kind == 3 && left <= 1;
    }

    private static boolean zone(int player, int square) {
        return player == 0 ? square / 9 <= 2 : square / 9 >= 6;
    }

    private boolean hasShape(int from, int to, int p) {
        if (from >= 82) {
            int kind = from - 81;
            return p == 0 && hands[toMove][kind] > 0 && squares[to] == 0 && !neverMovesOn(kind, toMove, to)
                    && (kind != 1 || !pawnInColumn(to % 9));
        }
        if (from == 81 || owner(squares[from]) != toMove || owner(squares[to]) == toMove || !goes(from, to)) {
            return false;
        }
        int kind = Math.abs(squares[from]);
        if (p == 1) {
            return (kind <= 4 || kind == 6 || kind == 7) && (zone(toMove, from) || zone(toMove, to));
        }
        return !neverMovesOn(kind, toMove, to);
    }

    private boolean pawnInColumn(int column) {
        for (int s = column; s < 81; s += 9) {
            if (squares[s] == (toMove == 0 ? 1 : -1)) {
                return true;
            }
        }
        return false;
    }

    PlainShogi behind(int move) {
        PlainShogi next = copy();
        int from = move % 128;
        int to = move / 128 % 128;
        int sign = toMove == 0 ? 1 : -1;
        if (from >= 82) {
            next.hands[toMove][from - 81]--;
            next.squares[to] = sign * (from - 81);
        } else {
            int taken = Math.abs(squares[to]);
            if (taken != 0) {
                next.hands[toMove][taken > 8 ? taken - 8 : taken]++;
            }
            next.squares[to] = squares[from] + sign * 8 * (move / 16384);
            next.squares[from] = 0;
        }
        next.toMove = 1 - toMove;
        return next;
    }

    boolean legal(int from, int to, int p) {
        if (!hasShape(from, to, p)) {
            return false;
        }
        PlainShogi next = behind(from + 128 * to + 16384 * p);
        if (next.inCheck(toMove)) {
            return false;
        }
        return from != 82 || !next.inCheck(1 - toMove) || next.hasLegal();
    }

    private boolean hasLegal() {
        for (int from = 0; from < 89; from++) {
            for (int to = 0; to < 81; to++) {
                if (legal(from, to, 0) || legal(from, to, 1)) {
                    return true;
                }
            }
        }
        return false;
    }

    List<Integer> moves() {
        List<Integer> all = new ArrayList<>();
        for (int from = 0; from < 89; from++) {
            for (int to = 0; to < 81; to++) {
                for (int p = 0; p < 2; p++) {
                    if (legal(from, to, p)) {
                        all.add(from + 128 * to + 16384 * p);
                    }
                }
            }
        }
        return all;
    }

    int mate(List<Integer> moves) {
        for (int move : moves) {
            PlainShogi next = behind(move);
            if (next.inCheck(1 - toMove) && !next.hasLegal()) {
                return move;
            }
        }
        return -1;
    }

    int countTwo(List<Integer> moves) {
        int sum = 0;
        for (int move : moves) {
            sum += behind(move).moves().size();
        }
        return sum;
    }

    private boolean same(PlainShogi other) {
        return toMove == other.toMove && Arrays.equals(squares, other.squares)
                && Arrays.deepEquals(hands, other.hands);
    }

    int times() {
        return 1 + timesBefore(this);
    }

    int timesBehind(int move) {
        return timesBefore(behind(move));
    }

    private int timesBefore(PlainShogi position) {
        int n = 0;
        for (PlainShogi past : before) {
            n += past.same(position) ? 1 : 0;
        }
        return n;
    }

    int result(List<Integer> moves) {
        if (moves.isEmpty()) {
            return 1;
        }
        if (times() < 4) {
            return 0;
        }
        int since = before.size();
        for (int found = 0; found < 3; ) {
            found += same(before.get(--since)) ? 1 : 0;
        }
        boolean mine = true;
        boolean others = true;
        for (int k = since; k < before.size(); k++) {
            if (before.get(k).toMove == toMove) {
                mine &= checks.get(k);
            } else {
                others &= checks.get(k);
            }
        }
        return mine ? 3 : others ? 4 : 2;
    }

    int play(int move) {
        int taken = move % 128 > 80 ? 0 : Math.abs(squares[move / 128 % 128]);
        before.add(copy());
        made.add(move);
        PlainShogi next = behind(move);
        squares = next.squares;
        hands = next.hands;
        toMove = next.toMove;
        checks.add(inCheck(toMove));
        return taken;
    }

    int back() {
        PlainShogi past = before.remove(before.size() - 1);
        checks.remove(checks.size() - 1);
        squares = past.squares;
        hands = past.hands;
        toMove = past.toMove;
        return made.remove(made.size() - 1);
    }

    int made() {
        return before.size();
    }
}
