/** A position with player 0 to move, and the same turned round with player 1 to move: both must answer alike. */
final class Sides {
    private final String name;
    private final DroppedPieces straight;
    private final DroppedPieces turned;

    Sides(String board, String hands) {
        name = board + " " + hands;
        straight = Setup.game(board + " b " + hands);
        turned = turnRound(straight);
    }

    private static DroppedPieces turnRound(DroppedPieces x) {
        DroppedPieces y = new DroppedPieces();
        y.clear();
        for (int s = 0; s < 81; s++) {
            y.put(80 - s, -x.at(s));
        }
        for (int kind = 1; kind <= 7; kind++) {
            y.give(1, kind, x.hand(0, kind));
            y.give(0, kind, x.hand(1, kind));
        }
        y.start(1);
        return y;
    }

    static int turn(int move) {
        int from = move % 128;
        int to = move / 128 % 128;
        return (from > 80 ? from : 80 - from) + 128 * (80 - to) + move / 16384 * 16384;
    }

    /** Just these of the numbers FROM + 128 * TO + 16384 * P with that FROM are legal. */
    Sides just(int from, int... moves) {
        for (int to = 0; to < 81; to++) {
            for (int p = 0; p < 2; p++) {
                int move = from + 128 * to + 16384 * p;
                boolean due = false;
                for (int legal : moves) {
                    due |= legal == move;
                }
                same(move, due);
            }
        }
        return this;
    }

    Sides legal(int... moves) {
        for (int move : moves) {
            same(move, true);
        }
        return this;
    }

    Sides notLegal(int... moves) {
        for (int move : moves) {
            same(move, false);
        }
        return this;
    }

    /** Not legal, and refused when the game goes on. */
    Sides illegal(int... moves) {
        notLegal(moves);
        for (int move : moves) {
            refuse(straight, move);
            refuse(turned, turn(move));
        }
        return this;
    }

    private static void refuse(DroppedPieces x, int move) {
        Check.argument("play(" + move + ")", () -> x.play(move));
    }

    private void same(int move, boolean due) {
        String what = name + ": isLegal(" + move + ")";
        Check.same(what, straight.isLegal(move) ? 1 : 0, due ? 1 : 0);
        Check.same(what + " turned round", turned.isLegal(turn(move)) ? 1 : 0, due ? 1 : 0);
    }

    Sides moves(int due) {
        Check.same(name + ": moves()", straight.moves(), due);
        Check.same(name + ": moves() turned round", turned.moves(), due);
        return this;
    }

    Sides mate(int due) {
        Check.same(name + ": mate()", straight.mate(), due);
        // The order turns round too: only whether there is a mate is the same.
        Check.same(name + ": mate() turned round", turned.mate() < 0 ? -1 : 0, due < 0 ? -1 : 0);
        return this;
    }

    Sides count(int n, int due) {
        Check.same(name + ": count(" + n + ")", straight.count(n), due);
        Check.same(name + ": count(" + n + ") turned round", turned.count(n), due);
        return this;
    }

    /** Plays a move on both; the kind that is taken. */
    Sides play(int move, int due) {
        Check.same(name + ": play(" + move + ")", straight.play(move), due);
        Check.same(name + ": play(" + move + ") turned round", turned.play(turn(move)), due);
        return this;
    }

    Sides result(int due) {
        Check.same(name + ": result()", straight.result(), due);
        Check.same(name + ": result() turned round", turned.result(), due);
        return this;
    }

    Sides times(int due) {
        Check.same(name + ": times()", straight.times(), due);
        Check.same(name + ": times() turned round", turned.times(), due);
        return this;
    }

    Sides back(int due) {
        Check.same(name + ": back()", straight.back(), due);
        Check.same(name + ": back() turned round", turned.back(), turn(due));
        return this;
    }

    Sides at(int square, int due) {
        Check.same(name + ": at(" + square + ")", straight.at(square), due);
        Check.same(name + ": at(" + (80 - square) + ") turned round", turned.at(80 - square), -due);
        return this;
    }

    Sides hand(int player, int kind, int due) {
        Check.same(name + ": hand(" + player + ", " + kind + ")", straight.hand(player, kind), due);
        Check.same(name + ": the same turned round", turned.hand(1 - player, kind), due);
        return this;
    }
}
