/** Boundary cases of promises 7 to 11: at, hand, player, reaches, inCheck. */
public final class ReadBoundaryTest {
    private static final int[] SQUARES_OUTSIDE = Refused.outside(0, 80);
    private static final int[] PLAYERS_OUTSIDE = Refused.outside(0, 1);
    private static final int[] KINDS_OUTSIDE = Refused.outside(1, 7);

    public static void main(String[] args) {
        Check.runAll(ReadBoundaryTest.class);
    }

    private static DroppedPieces cleared() {
        return Scene.cleared(new DroppedPieces());
    }

    /** "The value of a square": the first and the last one, in a game and while a position is being set up. */
    static void promise07FirstAndLastSquare() {
        DroppedPieces x = new DroppedPieces();
        Check.same("at(0)", x.at(0), -2);
        Check.same("at(80)", x.at(80), 2);
        x.clear();
        Check.same("at(0), cleared", x.at(0), 0);
        Check.same("at(80), cleared", x.at(80), 0);
        x.put(0, 15);
        x.put(80, -15);
        Check.same("at(0), put", x.at(0), 15);
        Check.same("at(80), put", x.at(80), -15);
    }

    /** "square 9 * r + c is in row r, column c". */
    static void promise07RowsAndColumns() {
        DroppedPieces x = new DroppedPieces();
        Check.same("row 1, column 1", x.at(10), -7);
        Check.same("row 1, column 7", x.at(16), -6);
        Check.same("row 7, column 1", x.at(64), 6);
        Check.same("row 7, column 7", x.at(70), 7);
        Check.same("row 2, column 8", x.at(26), -1);
        Check.same("row 3, column 0", x.at(27), 0);
        Check.same("row 5, column 8", x.at(53), 0);
        Check.same("row 6, column 0", x.at(54), 1);
    }

    /** "when there is no such square": -1 and 81, and far outside, in a game or not. */
    static void promise07NoSuchSquare() {
        Refused.index("at(-1), at(81)", Scene.all(), x -> x.at(-1), x -> x.at(81));
        Refused.each("at", Scene.all(), IndexOutOfBoundsException.class, SQUARES_OUTSIDE, DroppedPieces::at);
    }

    static void promise07BehindMoves() {
        DroppedPieces x = Scene.PLAYED.make();
        Check.same("left", x.at(56), 0);
        Check.same("taken up", x.at(47), 1);
        Check.same("taken, and taken again", x.at(16), -4);
        Check.same("dropped", x.at(40), 6);
        x.back();
        Check.same("drop taken back", x.at(40), 0);
        x.back();
        Check.same("taking taken back: promoted", x.at(16), 14);
        x.back();
        Check.same("promotion taken back", x.at(64), 6);
    }

    /** "How many pieces of a kind a player has": none, eighteen, and more by taking. */
    static void promise08NoneToNineteen() {
        DroppedPieces x = Setup.squares("8k/9/9/9/4p4/4R4/9/9/8K");
        Check.same("none", x.hand(0, 1), 0);
        x.give(0, 1, 18);
        Check.same("eighteen", x.hand(0, 1), 18);
        x.start(0);
        Check.same("eighteen in the game", x.hand(0, 1), 18);
        x.play(Setup.move(49, 40));
        Check.same("nineteen", x.hand(0, 1), 19);
        Check.same("none of player 1's", x.hand(1, 1), 0);
        x.back();
        Check.same("eighteen again", x.hand(0, 1), 18);
    }

    /** "0 when there is no such player". */
    static void promise08NoSuchPlayer() {
        DroppedPieces x = fullHands();
        Check.same("hand(-1, 1)", x.hand(-1, 1), 0);
        Check.same("hand(2, 1)", x.hand(2, 1), 0);
        Check.same("hand(-1, 7)", x.hand(-1, 7), 0);
        Check.same("hand(2, 7)", x.hand(2, 7), 0);
        for (int player : PLAYERS_OUTSIDE) {
            for (int kind = 1; kind <= 7; kind++) {
                Check.same("hand(" + player + ", " + kind + ")", x.hand(player, kind), 0);
            }
        }
    }

    /** "0 when there is no such .. kind": the king's and the promoted ones among them. */
    static void promise08NoSuchKind() {
        DroppedPieces x = fullHands();
        Check.same("hand(0, 0)", x.hand(0, 0), 0);
        Check.same("hand(0, 8)", x.hand(0, 8), 0);
        Check.same("hand(1, 0)", x.hand(1, 0), 0);
        Check.same("hand(1, 8)", x.hand(1, 8), 0);
        for (int kind = 8; kind <= 16; kind++) {
            Check.same("hand(0, " + kind + ")", x.hand(0, kind), 0);
            Check.same("hand(1, " + kind + ")", x.hand(1, kind), 0);
        }
        for (int kind : KINDS_OUTSIDE) {
            Check.same("hand(0, " + kind + ")", x.hand(0, kind), 0);
            Check.same("hand(1, " + kind + ")", x.hand(1, kind), 0);
        }
    }

    static void promise08NeitherPlayerNorKind() {
        DroppedPieces x = fullHands();
        int[] far = {Integer.MIN_VALUE, -8, -1, 2, 8, Integer.MAX_VALUE};
        for (int player : far) {
            for (int kind : new int[] {Integer.MIN_VALUE, -1, 0, 8, 16, Integer.MAX_VALUE}) {
                Check.same("hand(" + player + ", " + kind + ")", x.hand(player, kind), 0);
            }
        }
    }

    private static DroppedPieces fullHands() {
        DroppedPieces x = cleared();
        for (int kind = 1; kind <= 7; kind++) {
            x.give(0, kind, 18);
            x.give(1, kind, 18);
        }
        return x;
    }

    static void promise08OnlyLooks() {
        for (Scene scene : Scene.all()) {
            Refused.unchanged(scene + ": hand", scene, x -> {
                x.hand(0, 1);
                x.hand(-1, 0);
                x.hand(Integer.MAX_VALUE, Integer.MIN_VALUE);
            });
        }
    }

    /** "Who is to move", also when the game is over and behind 150 moves. */
    static void promise09InEveryScene() {
        Check.same("new", Scene.NEW.make().player(), 0);
        Check.same("five moves", Scene.PLAYED.make().player(), 1);
        Check.same("all taken back", Scene.TAKEN_BACK.make().player(), 0);
        Check.same("begun again", Scene.BEGUN_AGAIN.make().player(), 0);
        Check.same("player 1 starts", Scene.STARTED.make().player(), 1);
        Check.same("150 moves", Scene.FULL.make().player(), 0);
        Check.same("mated", Scene.MATED.make().player(), 1);
        Check.same("mate played", Scene.MATE_PLAYED.make().player(), 1);
        Check.same("no legal move", Scene.STALEMATED.make().player(), 1);
        Check.same("drawn", Scene.DRAWN.make().player(), 0);
        Check.same("result 3", Scene.CHECKER_TO_MOVE.make().player(), 0);
        Check.same("result 4", Scene.CHECKED_TO_MOVE.make().player(), 1);
    }

    /** "-1 while a position is being set up". */
    static void promise09WhileSettingUp() {
        for (Scene scene : Scene.setUps()) {
            Check.same("player() in " + scene, scene.make().player(), -1);
        }
    }

    static void promise09RefusedPlayLeavesIt() {
        DroppedPieces x = Scene.PLAYED.make();
        Check.argument("play(-1)", () -> x.play(-1));
        Check.same("player()", x.player(), 1);
        x.back();
        Check.same("player() behind back", x.player(), 0);
    }

    /** Each kind on each square, both players: no run or step goes round the edge. */
    static void promise10EveryKindOnEverySquare() {
        for (int from = 0; from < 81; from++) {
            for (int value = -15; value <= 15; value++) {
                if (value != 0 && value != 13 && value != -13) {
                    reachesFrom(from, value);
                }
            }
        }
    }

    private static void reachesFrom(int from, int value) {
        PlainShogi plain = new PlainShogi();
        plain.squares[from] = value;
        DroppedPieces x = cleared();
        x.put(from, value);
        int player = value > 0 ? 0 : 1;
        for (int to = 0; to < 81; to++) {
            Check.same(value + " on " + from + " reaches " + to, x.reaches(player, to) ? 1 : 0,
                    plain.goes(from, to) ? 1 : 0);
            Check.no("the other one reaches " + to, x.reaches(1 - player, to));
        }
    }

    private static void reachesJust(String what, DroppedPieces x, int player, int... due) {
        for (int s = 0; s < 81; s++) {
            boolean isDue = false;
            for (int square : due) {
                isDue |= square == s;
            }
            Check.same(what + " reaches " + s, x.reaches(player, s) ? 1 : 0, isDue ? 1 : 0);
        }
    }

    private static void reachesJust(int value, int from, int... due) {
        DroppedPieces x = cleared();
        x.put(from, value);
        reachesJust(value + " on " + from, x, value > 0 ? 0 : 1, due);
    }

    /** In the corners, square by square. */
    static void promise10Corners() {
        reachesJust(8, 0, 1, 9, 10);
        reachesJust(8, 8, 7, 16, 17);
        reachesJust(-8, 72, 63, 64, 73);
        reachesJust(-8, 80, 70, 71, 79);
        reachesJust(5, 0, 1, 9);
        reachesJust(5, 80, 70, 71, 79);
        reachesJust(-5, 0, 1, 9, 10);
        reachesJust(4, 8, 16);
        reachesJust(4, 72, 63, 64);
        reachesJust(-4, 72, 64);
        reachesJust(6, 0, 10, 20, 30, 40, 50, 60, 70, 80);
        reachesJust(7, 8, 0, 1, 2, 3, 4, 5, 6, 7, 17, 26, 35, 44, 53, 62, 71, 80);
        reachesJust(14, 80, 0, 10, 20, 30, 40, 50, 60, 70, 71, 79);
        reachesJust(15, 72, 0, 9, 18, 27, 36, 45, 54, 63, 64, 73, 74, 75, 76, 77, 78, 79, 80);
    }

    /** At the sides: the next row is not beside. */
    static void promise10Sides() {
        reachesJust(3, 44, 25);
        reachesJust(3, 36, 19);
        reachesJust(-3, 44, 61);
        reachesJust(-3, 36, 55);
        reachesJust(9, 44, 34, 35, 43, 53);
        reachesJust(-10, 36, 27, 37, 45, 46);
        reachesJust(4, 36, 27, 28, 46);
        reachesJust(8, 44, 34, 35, 43, 52, 53);
    }

    /** In the last rows, as far as what is put there moves at all. */
    static void promise10LastRows() {
        reachesJust(1, 4);
        reachesJust(2, 4);
        reachesJust(3, 4);
        reachesJust(3, 13);
        reachesJust(3, 22, 3, 5);
        reachesJust(1, 13, 4);
        reachesJust(2, 13, 4);
        reachesJust(-1, 76);
        reachesJust(-2, 76);
        reachesJust(-3, 76);
        reachesJust(-3, 67);
        reachesJust(-3, 58, 75, 77);
        reachesJust(-1, 67, 76);
    }

    /** "RUNNING over empty squares until a piece or the edge is met, its square included". */
    static void promise10RunsEnd() {
        DroppedPieces x = Setup.squares("9/9/4p4/9/2P1R2p1/9/9/4P4/9");
        for (int s : new int[] {22, 31, 38, 39, 41, 42, 43, 49, 58, 67}) {
            Check.yes("reaches(0, " + s + ")", x.reaches(0, s));
        }
        for (int s : new int[] {13, 4, 37, 36, 44, 76, 40}) {
            Check.no("reaches(0, " + s + ")", x.reaches(0, s));
        }
    }

    /** "or could if a piece of the other player was there": a square with a piece of its own. */
    static void promise10OwnPieceThere() {
        DroppedPieces x = Setup.squares("9/9/9/4G4/4P4/9/9/9/9");
        Check.yes("the pawn reaches the gold's square", x.reaches(0, 31));
        Check.yes("the gold reaches the pawn's square", x.reaches(0, 40));
        DroppedPieces alone = Setup.squares("9/9/9/9/4K4/9/9/9/9");
        Check.no("none reaches its own square", alone.reaches(0, 40));
        DroppedPieces full = cleared();
        for (int s = 0; s < 81; s++) {
            full.put(s, 8);
        }
        for (int s = 0; s < 81; s++) {
            Check.yes("on a full board: reaches(0, " + s + ")", full.reaches(0, s));
            Check.no("on a full board: reaches(1, " + s + ")", full.reaches(1, s));
        }
    }

    /** "3 KNIGHT: .. whatever stands between". */
    static void promise10KnightOverPieces() {
        DroppedPieces x = Setup.squares("9/9/9/3ppp3/3PPP3/4N4/9/9/9");
        Check.yes("reaches(0, 30)", x.reaches(0, 30));
        Check.yes("reaches(0, 32)", x.reaches(0, 32));
    }

    /** It is asked how a piece moves, not whether the move is legal. */
    static void promise10WhateverIsLegal() {
        DroppedPieces bound = Setup.game("4k4/4r4/9/9/9/9/4G4/4K4/9 b -");
        Check.yes("a piece that shields its king", bound.reaches(0, 57));
        DroppedPieces guarded = Setup.game("4k4/9/9/9/9/9/9/3r5/4K4 b -");
        Check.yes("a king where it would be in check", guarded.reaches(0, 75));
        Check.yes("the player that is not to move", guarded.reaches(1, 13));
        Check.yes("the other one's king", Scene.IN_CHECK.make().reaches(0, 4));
        Check.yes("when the game is over", Scene.DRAWN.make().reaches(0, 45));
        Check.yes("behind 150 moves", Scene.FULL.make().reaches(1, 4));
    }

    /** A hand reaches nothing. */
    static void promise10NoDrops() {
        DroppedPieces x = cleared();
        x.give(0, 7, 18);
        for (int s = 0; s < 81; s++) {
            Check.no("reaches(0, " + s + ")", x.reaches(0, s));
        }
    }

    /** "false when there is no such player or square", in a game or not. */
    static void promise10NoSuchPlayerOrSquare() {
        DroppedPieces x = cleared();
        for (int s = 0; s < 81; s++) {
            x.put(s, s % 2 == 0 ? 8 : -8);
        }
        for (int player : PLAYERS_OUTSIDE) {
            Check.no("reaches(" + player + ", 40)", x.reaches(player, 40));
            Check.no("reaches(" + player + ", 0)", x.reaches(player, 0));
        }
        for (int square : SQUARES_OUTSIDE) {
            Check.no("reaches(0, " + square + ")", x.reaches(0, square));
            Check.no("reaches(1, " + square + ")", x.reaches(1, square));
        }
        Check.no("reaches(-1, -1)", x.reaches(-1, -1));
        Check.no("reaches(2, 81)", x.reaches(2, 81));
        Check.yes("reaches(0, 0)", x.reaches(0, 0) || x.reaches(1, 0));
        Check.yes("reaches(0, 80)", x.reaches(0, 80) || x.reaches(1, 80));
    }

    static void promise10NoSuchSquareInAnyScene() {
        for (Scene scene : Scene.all()) {
            Refused.unchanged(scene + ": reaches", scene, x -> {
                Check.no("reaches(0, -1)", x.reaches(0, -1));
                Check.no("reaches(1, 81)", x.reaches(1, 81));
                Check.no("reaches(2, 0)", x.reaches(2, 0));
                Check.no("reaches(-1, 80)", x.reaches(-1, 80));
                Check.no("reaches lowest", x.reaches(Integer.MIN_VALUE, Integer.MIN_VALUE));
                Check.no("reaches highest", x.reaches(Integer.MAX_VALUE, Integer.MAX_VALUE));
                Check.no("reaches(0, lowest)", x.reaches(0, Integer.MIN_VALUE));
                Check.no("reaches(1, highest)", x.reaches(1, Integer.MAX_VALUE));
            });
        }
    }

    /** Each kind on each square against a king in the middle and one in a corner, both players. */
    static void promise11EveryKindOnEverySquare() {
        for (int square = 0; square < 81; square++) {
            for (int kind = 1; kind <= 15; kind++) {
                if (kind != 8 && kind != 13) {
                    checksFrom(square, kind, 40, 72);
                    checksFrom(square, kind, 0, 78);
                    checksFrom(square, kind, 44, 45);
                }
            }
        }
    }

    /** A piece of player 0 against player 1's king, and both turned round. */
    private static void checksFrom(int square, int kind, int king, int home) {
        int row = square / 9;
        if (square == king || square == home || kind < 3 && row == 0 || kind == 3 && row < 2) {
            return;
        }
        PlainShogi plain = new PlainShogi();
        plain.squares[king] = -8;
        plain.squares[home] = 8;
        plain.squares[square] = kind;
        int due = plain.goes(square, king) ? 1 : 0;
        DroppedPieces x = cleared();
        x.put(king, -8);
        x.put(home, 8);
        x.put(square, kind);
        x.start(1);
        Check.same(kind + " on " + square + ": inCheck(1)", x.inCheck(1) ? 1 : 0, due);
        Check.no(kind + " on " + square + ": inCheck(0)", x.inCheck(0));
        DroppedPieces turned = cleared();
        turned.put(80 - king, 8);
        turned.put(80 - home, -8);
        turned.put(80 - square, -kind);
        turned.start(0);
        Check.same("turned, " + kind + " on " + square + ": inCheck(0)", turned.inCheck(0) ? 1 : 0, due);
        Check.no("turned, " + kind + " on " + square + ": inCheck(1)", turned.inCheck(1));
    }

    static void promise11NotInCheck() {
        DroppedPieces x = new DroppedPieces();
        Check.no("new: inCheck(0)", x.inCheck(0));
        Check.no("new: inCheck(1)", x.inCheck(1));
        DroppedPieces stale = Scene.STALEMATED.make();
        Check.no("no legal move: inCheck(1)", stale.inCheck(1));
        Check.no("no legal move: inCheck(0)", stale.inCheck(0));
        DroppedPieces shielded = Setup.game("4k4/4p4/4R4/9/9/9/9/9/4K4 w -");
        Check.no("shielded: inCheck(1)", shielded.inCheck(1));
    }

    static void promise11InCheck() {
        Check.yes("in check: inCheck(1)", Scene.IN_CHECK.make().inCheck(1));
        Check.no("in check: inCheck(0)", Scene.IN_CHECK.make().inCheck(0));
        Check.yes("mated: inCheck(1)", Scene.MATED.make().inCheck(1));
        Check.yes("mate played: inCheck(1)", Scene.MATE_PLAYED.make().inCheck(1));
        Check.yes("result 4: inCheck(1)", Scene.CHECKED_TO_MOVE.make().inCheck(1));
        DroppedPieces x = Scene.MATE_PLAYED.make();
        x.back();
        Check.no("check taken back: inCheck(1)", x.inCheck(1));
    }

    /** A piece that shields its own king gives check all the same. */
    static void promise11CheckByAPieceThatMayNotLeave() {
        DroppedPieces x = Setup.game("9/9/1k7/4r4/9/9/1R2G4/9/4K4 w -");
        Check.yes("by the rook", x.inCheck(1));
        DroppedPieces y = Setup.game("4r4/9/9/3k5/4G4/9/9/9/4K4 w -");
        Check.yes("by a gold that shields its king", y.inCheck(1));
    }

    /** "false when there is no such player". */
    static void promise11NoSuchPlayer() {
        for (Scene scene : Scene.all()) {
            Refused.unchanged(scene + ": inCheck", scene, x -> {
                Check.no(scene + ": inCheck(-1)", x.inCheck(-1));
                Check.no(scene + ": inCheck(2)", x.inCheck(2));
                for (int player : PLAYERS_OUTSIDE) {
                    Check.no(scene + ": inCheck(" + player + ")", x.inCheck(player));
                }
            });
        }
    }

    /** "false .. while a position is being set up", with kings in check, many kings, or none. */
    static void promise11WhileSettingUp() {
        String[] boards = {
            "4k4/9/4R4/9/9/9/4r4/9/4K4", "9/9/9/9/9/9/9/9/9", "kkkkkkkkk/RRRRRRRRR/9/9/9/9/9/rrrrrrrrr/KKKKKKKKK",
            "4k4/4K4/9/9/9/9/9/9/9"};
        for (String board : boards) {
            DroppedPieces x = Setup.squares(board);
            Check.no(board + ": inCheck(0)", x.inCheck(0));
            Check.no(board + ": inCheck(1)", x.inCheck(1));
            Check.no(board + ": inCheck(2)", x.inCheck(2));
        }
        DroppedPieces y = Scene.cleared(Scene.MATE_PLAYED.make());
        Check.no("cleared when mated: inCheck(1)", y.inCheck(1));
        DroppedPieces z = Setup.squares("4k4/9/4R4/9/9/9/9/9/4K4");
        Check.argument("start that is refused", () -> z.start(0));
        Check.no("behind a refused start: inCheck(1)", z.inCheck(1));
        z.start(1);
        Check.yes("behind start: inCheck(1)", z.inCheck(1));
    }
}
