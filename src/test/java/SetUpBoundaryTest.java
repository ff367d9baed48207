import java.util.List;

/** Boundary cases of promises 4 to 6: put, give, start. */
public final class SetUpBoundaryTest {
    private static final int[] SQUARES_OUTSIDE = Refused.outside(0, 80);
    private static final int[] VALUES_OUTSIDE = Refused.outside(-15, 15);
    private static final int[] PLAYERS_OUTSIDE = Refused.outside(0, 1);
    private static final int[] KINDS_OUTSIDE = Refused.outside(1, 7);
    private static final int[] NUMBERS_OUTSIDE = Refused.outside(0, 18);

    public static void main(String[] args) {
        Check.runAll(SetUpBoundaryTest.class);
    }

    private static DroppedPieces cleared() {
        return Scene.cleared(new DroppedPieces());
    }

    private static int[] values() {
        int[] all = new int[29];
        int n = 0;
        for (int value = -15; value <= 15; value++) {
            if (value != 13 && value != -13) {
                all[n++] = value;
            }
        }
        return all;
    }

    /** "A square gets a value: what it had", for the first square, the last one, and all between. */
    static void promise04EverySquare() {
        int[] values = values();
        DroppedPieces x = cleared();
        for (int s = 0; s < 81; s++) {
            Check.same("put on empty square " + s, x.put(s, values[s % 29]), 0);
        }
        for (int s = 0; s < 81; s++) {
            Check.same("at(" + s + ")", x.at(s), values[s % 29]);
        }
        for (int s = 0; s < 81; s++) {
            Check.same("put on square " + s + " again", x.put(s, values[(s + 1) % 29]), values[s % 29]);
        }
        for (int s = 0; s < 81; s++) {
            Check.same("at(" + s + ") behind", x.at(s), values[(s + 1) % 29]);
        }
    }

    /** Every value, one in place of every other, the least and the greatest among them. */
    static void promise04EveryValue() {
        int[] values = values();
        for (int value : values) {
            DroppedPieces x = cleared();
            for (int before : values) {
                x.put(40, before);
                Check.same("put(40, " + value + ")", x.put(40, value), before);
                Check.same("at(40)", x.at(40), value);
            }
            Check.same("at(39)", x.at(39), 0);
            Check.same("at(41)", x.at(41), 0);
        }
    }

    static void promise04EmptyOnEmpty() {
        DroppedPieces x = cleared();
        Check.same("put(0, 0)", x.put(0, 0), 0);
        Check.same("put(80, 0)", x.put(80, 0), 0);
        Check.same("at(80)", x.at(80), 0);
    }

    static void promise04SameValueAgain() {
        DroppedPieces x = cleared();
        x.put(80, -15);
        Check.same("put(80, -15)", x.put(80, -15), -15);
        Check.same("at(80)", x.at(80), -15);
    }

    static void promise04KeepsHands() {
        DroppedPieces x = cleared();
        x.give(0, 1, 18);
        x.give(1, 7, 3);
        x.put(0, 1);
        x.put(0, -7);
        x.put(0, 0);
        Check.same("hand(0, 1)", x.hand(0, 1), 18);
        Check.same("hand(1, 7)", x.hand(1, 7), 3);
        Check.same("hand(0, 7)", x.hand(0, 7), 0);
    }

    /** What no game could begin with may be put all the same: start looks at it. */
    static void promise04WhatNoGameBeginsWith() {
        DroppedPieces x = cleared();
        for (int s = 0; s < 81; s++) {
            Check.same("a king on square " + s, x.put(s, 8), 0);
        }
        Check.same("a pawn in its last row", x.put(0, 1), 8);
        Check.same("a second pawn in the column", x.put(9, 1), 8);
        Check.same("player 1's knight in row 8", x.put(80, -3), 8);
    }

    /** "when there is no such square": -1 and 81, and far outside. */
    static void promise04NoSuchSquare() {
        Refused.index("put on square -1 or 81", Scene.setUps(), x -> x.put(-1, 1), x -> x.put(81, 1),
                x -> x.put(-1, 0), x -> x.put(81, 0));
        Refused.each("put on square", Scene.setUps(), IndexOutOfBoundsException.class, SQUARES_OUTSIDE,
                (x, square) -> x.put(square, 5));
    }

    /** "when there is no such value": -16, 16, 13, -13, and far outside. */
    static void promise04NoSuchValue() {
        Refused.argument("put of a value that is none", Scene.setUps(), x -> x.put(40, 16), x -> x.put(40, -16),
                x -> x.put(0, 16), x -> x.put(80, -16));
        Refused.each("put of value", Scene.setUps(), IllegalArgumentException.class, VALUES_OUTSIDE,
                (x, value) -> x.put(40, value));
    }

    /** "(13 is no kind.)": its neighbours are. */
    static void promise04ThirteenIsNoKind() {
        Refused.argument("put of 13", Scene.setUps(), x -> x.put(0, 13), x -> x.put(0, -13), x -> x.put(80, 13),
                x -> x.put(80, -13));
        DroppedPieces x = cleared();
        Check.same("put(0, 12)", x.put(0, 12), 0);
        Check.same("put(0, 14)", x.put(0, 14), 12);
        Check.same("put(0, -12)", x.put(0, -12), 14);
        Check.same("put(0, -14)", x.put(0, -14), -12);
        Check.same("at(0)", x.at(0), -14);
    }

    /** "when no position is being set up": in every game, going on or over, even where nothing would change. */
    static void promise04NothingBeingSetUp() {
        Refused.state("put", Scene.games(), x -> x.put(0, 0), x -> x.put(40, 1), x -> x.put(80, -15),
                x -> x.put(76, x.at(76)));
    }

    /** "of several exceptions the one that stands first": state, then square, then value. */
    static void promise04FirstException() {
        Refused.state("put, all wrong", Scene.games(), x -> x.put(-1, 13), x -> x.put(81, 16), x -> x.put(-1, 1),
                x -> x.put(0, 13), x -> x.put(Integer.MIN_VALUE, Integer.MIN_VALUE));
        Refused.index("put, square and value wrong", Scene.setUps(), x -> x.put(-1, 13), x -> x.put(81, 16),
                x -> x.put(81, -13), x -> x.put(Integer.MAX_VALUE, Integer.MAX_VALUE));
    }

    /** Each hand for itself: 14 different numbers. */
    static void promise05EveryHand() {
        DroppedPieces x = cleared();
        for (int kind = 1; kind <= 7; kind++) {
            x.give(0, kind, kind);
            x.give(1, kind, 10 + kind);
        }
        for (int kind = 1; kind <= 7; kind++) {
            Check.same("hand(0, " + kind + ")", x.hand(0, kind), kind);
            Check.same("hand(1, " + kind + ")", x.hand(1, kind), 10 + kind);
        }
    }

    /** "n not 0 .. 18": every number inside, for every hand. */
    static void promise05EveryNumber() {
        for (int player = 0; player < 2; player++) {
            for (int kind = 1; kind <= 7; kind++) {
                DroppedPieces x = cleared();
                for (int n = 0; n <= 18; n++) {
                    x.give(player, kind, n);
                    Check.same("hand behind give of " + n, x.hand(player, kind), n);
                    Check.same("the other hand", x.hand(1 - player, kind), 0);
                }
            }
        }
    }

    /** "in place of those that it has": nothing is added. */
    static void promise05InPlaceOf() {
        DroppedPieces x = cleared();
        x.give(0, 1, 18);
        x.give(0, 1, 18);
        Check.same("eighteen twice", x.hand(0, 1), 18);
        x.give(0, 1, 1);
        Check.same("one in place of eighteen", x.hand(0, 1), 1);
        x.give(0, 1, 0);
        Check.same("none in place of one", x.hand(0, 1), 0);
        x.give(0, 1, 0);
        Check.same("none in place of none", x.hand(0, 1), 0);
    }

    static void promise05KeepsSquares() {
        DroppedPieces x = cleared();
        x.put(0, -8);
        x.give(1, 7, 18);
        for (int s = 1; s < 81; s++) {
            Check.same("at(" + s + ")", x.at(s), 0);
        }
        Check.same("at(0)", x.at(0), -8);
    }

    /** "player is not 0 or 1". */
    static void promise05NoSuchPlayer() {
        Refused.argument("give to player -1 or 2", Scene.setUps(), x -> x.give(-1, 1, 1), x -> x.give(2, 1, 1),
                x -> x.give(-1, 7, 0), x -> x.give(2, 7, 18));
        Refused.each("give to player", Scene.setUps(), IllegalArgumentException.class, PLAYERS_OUTSIDE,
                (x, player) -> x.give(player, 1, 1));
    }

    /** "kind not 1 .. 7": no king, nothing promoted. */
    static void promise05NoSuchKind() {
        Refused.argument("give of kind 0 or 8", Scene.setUps(), x -> x.give(0, 0, 1), x -> x.give(0, 8, 1),
                x -> x.give(1, 0, 1), x -> x.give(1, 8, 1), x -> x.give(0, 8, 0), x -> x.give(0, 0, 0));
        Refused.each("give of kind", Scene.setUps(), IllegalArgumentException.class,
                new int[] {9, 10, 11, 12, 13, 14, 15, 16}, (x, kind) -> x.give(1, kind, 1));
        Refused.each("give of kind", Scene.setUps(), IllegalArgumentException.class, KINDS_OUTSIDE,
                (x, kind) -> x.give(0, kind, 1));
    }

    /** "n not 0 .. 18": -1 and 19, and far outside. */
    static void promise05NoSuchNumber() {
        Refused.argument("give of -1 or 19", Scene.setUps(), x -> x.give(0, 1, -1), x -> x.give(0, 1, 19),
                x -> x.give(1, 7, -1), x -> x.give(1, 7, 19));
        Refused.each("give of so many", Scene.setUps(), IllegalArgumentException.class, NUMBERS_OUTSIDE,
                (x, n) -> x.give(1, 3, n));
    }

    /** "when no position is being set up". */
    static void promise05NothingBeingSetUp() {
        Refused.state("give", Scene.games(), x -> x.give(0, 1, 0), x -> x.give(1, 7, 18), x -> x.give(0, 5, 1));
    }

    /** "of several exceptions the one that stands first". */
    static void promise05FirstException() {
        Refused.state("give, all wrong", Scene.games(), x -> x.give(2, 8, 19), x -> x.give(-1, 1, 1),
                x -> x.give(0, 0, 1), x -> x.give(0, 1, -1),
                x -> x.give(Integer.MIN_VALUE, Integer.MAX_VALUE, Integer.MIN_VALUE));
    }

    /** "A game begins with what was set up, this player being to move". */
    static void promise06BeginsWithWhatWasSetUp() {
        for (int player = 0; player < 2; player++) {
            DroppedPieces x = Scene.READY.make();
            x.start(player);
            Check.same("player()", x.player(), player);
            Check.same("made()", x.made(), 0);
            Check.same("times()", x.times(), 1);
            Check.same("at(4)", x.at(4), -8);
            Check.same("at(20)", x.at(20), 1);
            Check.same("at(76)", x.at(76), 8);
            Check.same("at(71)", x.at(71), -2);
            Check.same("hand(0, 1)", x.hand(0, 1), 18);
            Check.same("hand(0, 7)", x.hand(0, 7), 2);
            Check.same("hand(1, 5)", x.hand(1, 5), 1);
        }
    }

    /** The beginning may be set up too. */
    static void promise06TheBeginningSetUp() {
        String got = View.of(() -> Setup.game("lnsgkgsnl/1r5b1/ppppppppp/9/9/9/PPPPPPPPP/1B5R1/LNSGKGSNL b -"));
        Check.same("the beginning", View.difference(got, Scene.NEW.view()), "");
    }

    /** "player is not 0 or 1", where all else is right. */
    static void promise06NoSuchPlayer() {
        Refused.argument("start of player -1 or 2", List.of(Scene.READY), x -> x.start(-1), x -> x.start(2));
        Refused.each("start of player", Scene.setUps(), IllegalArgumentException.class, PLAYERS_OUTSIDE,
                (x, player) -> x.start(player));
    }

    /** "when no position is being set up", whoever is to begin. */
    static void promise06NothingBeingSetUp() {
        Refused.state("start", Scene.games(), x -> x.start(0), x -> x.start(1));
    }

    /** "of several exceptions the one that stands first". */
    static void promise06FirstException() {
        Refused.state("start, no such player", Scene.games(), x -> x.start(-1), x -> x.start(2),
                x -> x.start(Integer.MIN_VALUE), x -> x.start(Integer.MAX_VALUE));
    }

    /** A refused start leaves all as it was: it can be mended and started. */
    static void promise06RefusedAndMended() {
        Refused.argument("start of what is not sound", List.of(Scene.CLEARED, Scene.HALF_SET_UP), x -> x.start(0),
                x -> x.start(1));
        DroppedPieces x = Scene.HALF_SET_UP.make();
        Check.argument("two kings of player 1, none of player 0", () -> x.start(0));
        x.put(80, 8);
        Check.argument("player 0 has two pawns in a column", () -> x.start(0));
        x.put(37, 9);
        x.start(0);
        Check.same("player()", x.player(), 0);
        Check.same("hand(0, 1)", x.hand(0, 1), 18);
    }

    /** Neither player can begin so, and a start that is refused changes nothing. */
    private static void refused(String what, String board) {
        Refused.unchanged(what, () -> Setup.squares(board), x -> {
            Check.argument(what + ": start(0)", () -> x.start(0));
            Check.argument(what + ": start(1)", () -> x.start(1));
        });
    }

    private static void accepted(String what, String board) {
        for (int player = 0; player < 2; player++) {
            DroppedPieces x = Setup.squares(board);
            x.start(player);
            Check.same(what + ": player()", x.player(), player);
        }
    }

    /** "one of them has not just one king": none, one, two, many. */
    static void promise06JustOneKing() {
        refused("no king", "9/9/9/9/9/9/9/9/9");
        refused("no king, but other pieces", "4g4/9/9/9/9/9/9/9/4G4");
        refused("no king of player 0", "4k4/9/9/9/9/9/9/9/9");
        refused("no king of player 1", "9/9/9/9/9/9/9/9/4K4");
        refused("two kings of player 0", "4k4/9/9/9/9/9/9/9/K7K");
        refused("two kings of player 1", "k7k/9/9/9/9/9/9/9/4K4");
        refused("two kings of both", "k7k/9/9/9/9/9/9/9/K7K");
        refused("two kings of player 0, none of player 1", "K8/9/9/9/9/9/9/9/8K");
        refused("two kings of player 1, none of player 0", "k8/9/9/9/9/9/9/9/8k");
        refused("three kings of player 0", "4k4/9/9/9/9/9/9/9/K3K3K");
        accepted("one king of both", "k8/9/9/9/9/9/9/9/8K");
        accepted("one king of both, turned", "K8/9/9/9/9/9/9/9/8k");
    }

    private static DroppedPieces one(int player, int kind, int square) {
        DroppedPieces x = cleared();
        // Behind every piece of that player in the rows that are tested, and out of lines that check.
        x.put(player == 0 ? 54 : 26, player == 0 ? 8 : -8);
        x.put(player == 0 ? 80 : 0, player == 0 ? -8 : 8);
        x.put(square, player == 0 ? kind : -kind);
        return x;
    }

    private static void startsIf(String what, DroppedPieces x, int player, boolean due) {
        if (due) {
            x.start(player);
            Check.same(what + " starts", x.player(), player);
        } else {
            Check.argument(what, () -> x.start(player));
            Check.same(what + " does not start", x.player(), -1);
        }
    }

    /** "a pawn, lance or knight stands where it could never move on": each row and column, both players. */
    static void promise06NeverMovesOn() {
        for (int player = 0; player < 2; player++) {
            for (int kind = 1; kind <= 3; kind++) {
                for (int row = 0; row < 5; row++) {
                    for (int column = 0; column < 9; column++) {
                        int square = player == 0 ? 9 * row + column : 80 - 9 * row - column;
                        boolean due = row >= (kind == 3 ? 2 : 1);
                        String what = "kind " + kind + " of player " + player + " on " + square;
                        startsIf(what, one(player, kind, square), player, due);
                        startsIf(what, one(player, kind, square), 1 - player, due);
                    }
                }
            }
        }
    }

    /** Those that could never move on are pawns, lances and knights alone. */
    static void promise06OthersMayStandInTheLastRow() {
        for (int player = 0; player < 2; player++) {
            for (int kind = 4; kind <= 15; kind++) {
                for (int column = 0; column < 9 && kind != 8 && kind != 13; column++) {
                    int square = player == 0 ? column : 80 - column;
                    // The other one begins: this piece may give check.
                    startsIf("kind " + kind + " on " + square, one(player, kind, square), 1 - player, true);
                }
            }
        }
    }

    /** A piece in the first row of its own player moves on. */
    static void promise06PlayersOwnFirstRow() {
        accepted("in their own first rows", "plnk4/9/9/9/9/9/9/9/4K1NLP");
        refused("player 1's pawn in row 8", "4k4/9/9/9/9/9/9/9/4K3p");
        refused("player 1's lance in row 8", "4k4/9/9/9/9/9/9/9/4K3l");
        refused("player 1's knight in row 7", "4k4/9/9/9/9/9/9/8n/4K4");
        accepted("player 0's in rows 7 and 8", "4k4/9/9/9/9/9/9/8N/4K2PL");
    }

    /** "a player has two pawns in a column": every pair of rows in every column, both players. */
    static void promise06TwoPawnsInAColumn() {
        for (int column = 0; column < 9; column++) {
            for (int first = 1; first < 8; first++) {
                for (int second = first + 1; second < 8; second++) {
                    for (int pawn = -1; pawn <= 1; pawn += 2) {
                        DroppedPieces x = farKings(column);
                        x.put(9 * first + column, pawn);
                        x.put(9 * second + column, pawn);
                        startsIf("two pawns in column " + column, x, first % 2, false);
                        x.put(9 * second + column, -pawn);
                        startsIf("one of each in column " + column, x, first % 2, true);
                    }
                }
            }
        }
    }

    private static DroppedPieces farKings(int column) {
        DroppedPieces x = cleared();
        int aside = (column + 4) % 9;
        x.put(aside, -8);
        x.put(72 + aside, 8);
        return x;
    }

    static void promise06PawnsThatAreNotTwoInAColumn() {
        accepted("a pawn and a promoted one", "4k4/9/P8/+P8/9/9/9/9/4K4");
        accepted("two promoted ones", "4k4/9/+P8/+P8/9/9/9/9/4K4");
        accepted("one pawn of each", "4k4/9/p8/P8/9/9/9/9/4K4");
        accepted("pawns in columns side by side", "4k4/9/P8/1P7/9/9/9/9/4K4");
        accepted("pawns at the end of one row and the head of the next", "4k4/9/8P/P8/9/9/9/9/4K4");
        accepted("nine pawns of each", "4k4/9/9/ppppppppp/9/PPPPPPPPP/9/9/4K4");
        refused("three pawns in a column", "4k4/9/P8/P8/P8/9/9/9/4K4");
        refused("two of ten", "4k4/9/9/9/9/PPPPPPPPP/4P4/9/4K4");
        refused("two of player 1's ten", "4k4/9/4p4/ppppppppp/9/9/9/9/4K4");
        refused("two pawns, a promoted one between", "4k4/9/P8/+P8/P8/9/9/9/4K4");
    }

    /** Any number of pieces may be in the hands: the pawns there are in no column. */
    static void promise06FullHands() {
        DroppedPieces x = Setup.squares("4k4/9/9/9/4P4/9/9/9/4K4");
        for (int kind = 1; kind <= 7; kind++) {
            x.give(0, kind, 18);
            x.give(1, kind, 18);
        }
        x.start(1);
        Check.same("player()", x.player(), 1);
        Check.same("hand(1, 7)", x.hand(1, 7), 18);
    }

    /** "the one that is not to move is in check": each kind on each square, both players. */
    static void promise06OtherOneInCheck() {
        for (int player = 0; player < 2; player++) {
            for (int kind = 1; kind <= 15; kind++) {
                for (int square = 0; square < 81 && kind != 8 && kind != 13; square++) {
                    if (square != 40 && square != 72 && square != 8) {
                        checksFrom(player, kind, square);
                    }
                }
            }
        }
    }

    private static void checksFrom(int player, int kind, int square) {
        int row = player == 0 ? square / 9 : 8 - square / 9;
        boolean sound = kind > 3 || row >= (kind == 3 ? 2 : 1);
        PlainShogi plain = new PlainShogi();
        int value = player == 0 ? kind : -kind;
        plain.squares[40] = player == 0 ? -8 : 8;
        plain.squares[square] = value;
        boolean check = plain.goes(square, 40);
        for (int starter = 0; starter < 2; starter++) {
            DroppedPieces x = cleared();
            x.put(player == 0 ? 72 : 8, player == 0 ? 8 : -8);
            x.put(40, player == 0 ? -8 : 8);
            x.put(square, value);
            startsIf("value " + value + " on " + square + ", player " + starter + " to move", x, starter,
                    sound && !(check && starter == player));
        }
    }

    /** Kings side by side give check to one another: no one can begin. */
    static void promise06KingsSideBySide() {
        for (int step : new int[] {-10, -9, -8, -1, 1, 8, 9, 10}) {
            for (int player = 0; player < 2; player++) {
                DroppedPieces x = cleared();
                x.put(40, 8);
                x.put(40 + step, -8);
                startsIf("kings " + step + " apart", x, player, false);
            }
        }
        accepted("kings two apart", "9/9/9/9/3K1k3/9/9/9/9");
        accepted("kings at the end of one row and the head of the next", "9/9/9/8K/k8/9/9/9/9");
    }

    static void promise06BothInCheck() {
        refused("both in check", "4k4/9/4R4/9/9/9/3r5/9/3K5");
        refused("both in check on one line", "4k4/4R4/9/9/9/9/9/4r4/4K4");
    }

    /** The player that is not to move is in check: refused, nothing changes, and the other one may begin. */
    static void promise06InCheckRefusedOnce() {
        Refused.unchanged("start(0)", () -> Setup.squares("4k4/9/4R4/9/9/9/9/9/4K4"),
                x -> Check.argument("player 1 in check: start(0)", () -> x.start(0)));
        Refused.unchanged("start(1)", () -> Setup.squares("4k4/9/9/9/9/9/3n5/9/4K4"),
                x -> Check.argument("player 0 in check: start(1)", () -> x.start(1)));
        DroppedPieces x = Setup.squares("4k4/9/4R4/9/9/9/9/9/4K4");
        Check.argument("player 1 in check: start(0)", () -> x.start(0));
        x.start(1);
        Check.same("player()", x.player(), 1);
        Check.yes("inCheck(1)", x.inCheck(1));
    }

    static void promise06ShieldedIsNotInCheck() {
        accepted("a pawn of its own between", "4k4/4p4/9/4R4/9/9/9/9/4K4");
        accepted("a pawn of the other one between", "4k4/9/4P4/4R4/9/9/9/9/4K4");
    }

    /** A game may begin that is over: the player to move has no legal move. */
    static void promise06BeginsWithoutLegalMove() {
        DroppedPieces x = Setup.squares("k8/1G7/1P7/9/9/9/9/9/4K4");
        x.start(1);
        Check.same("result()", x.result(), 1);
        Check.same("times()", x.times(), 1);
        Check.same("made()", x.made(), 0);
    }

    /** The position of the game before is not counted. */
    static void promise06CountsAnew() {
        DroppedPieces x = Setup.game("4k4/9/9/9/9/9/9/9/4K4 b -");
        Scene.rounds(2, x, Setup.move(76, 67), Setup.move(4, 13), Setup.move(67, 76), Setup.move(13, 4));
        Check.same("times() before", x.times(), 3);
        x.clear();
        x.put(4, -8);
        x.put(76, 8);
        x.start(0);
        Check.same("times()", x.times(), 1);
        Check.same("made()", x.made(), 0);
    }
}
