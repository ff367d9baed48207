import java.util.List;

/** Boundary cases of promises 12 to 14, moves, move and isLegal, and of what a legal move is. */
public final class MovesBoundaryTest {
    // So that nothing in columns 3 to 5 of the upper rows meets or shields a king.
    private static final String KINGS_BELOW = "/K7k/9/9/9";

    public static void main(String[] args) {
        Check.runAll(MovesBoundaryTest.class);
    }

    private static int[] order(int move) {
        return new int[] {move % 128, move / 128 % 128, move / 16384};
    }

    private static boolean comesBefore(int move, int other) {
        int[] first = order(move);
        int[] second = order(other);
        for (int k = 0; k < 3; k++) {
            if (first[k] != second[k]) {
                return first[k] < second[k];
            }
        }
        return false;
    }

    /** "How many legal moves there are": none, few, most. */
    static void promise12NoneToMost() {
        Check.same("mated", Scene.MATED.make().moves(), 0);
        Check.same("no legal move, no check", Scene.STALEMATED.make().moves(), 0);
        Check.same("just one", Setup.game("k8/9/1R7/9/9/9/9/9/4K4 w -").moves(), 1);
        Check.same("new", new DroppedPieces().moves(), 30);
        Check.same("most in a game",
                Setup.game("R8/2K1S1SSk/4B4/9/9/9/9/9/1L1L1L3 b RBGSNLP3g3n17p").moves(), 593);
    }

    /** Every kind in the hand, all squares but two empty. */
    static void promise12FullHandOnAnEmptyBoard() {
        Sides sides = new Sides("4k4/9/9/9/9/9/9/9/4K4", "18P18L18N18S18G18B18R");
        // Kings stand in the last and in the first row: pawns and lances in rows 1 to 8, knights in 2 to 8.
        sides.moves(5 + (8 * 9 - 1) + (8 * 9 - 1) + (7 * 9 - 1) + 4 * 79);
    }

    /** More moves than a game with forty pieces could have: each is counted and listed. */
    static void promise12MoreThanAnyGameHas() {
        int[] squares = new int[81];
        for (int k = 0; k < 8; k++) {
            squares[10 * k] = 7;
        }
        int[] others = {63, -5, 64, -5, 73, -5, 72, -8, 80, 8, 2, 6, 5, 6, 24, 6, 37, 6, 44, 6, 6, 14, 62, 15};
        for (int k = 0; k < others.length; k += 2) {
            squares[others[k]] = others[k + 1];
        }
        PlainShogi plain = new PlainShogi();
        plain.squares = squares;
        for (int kind = 1; kind <= 7; kind++) {
            plain.hands[0][kind] = 18;
        }
        List<Integer> due = plain.moves();
        Check.yes("more than 593", due.size() > 593);
        for (int first = 0; first < due.size(); first += 300) {
            DroppedPieces x = plainly(plain);
            Check.same("moves()", x.moves(), due.size());
            for (int k = first; k < first + 300 && k < due.size(); k++) {
                Check.same("move(" + k + ")", x.move(k), due.get(k));
            }
            Check.index("move(n)", () -> x.move(due.size()));
        }
        Check.yes("isLegal of the last", plainly(plain).isLegal(due.get(due.size() - 1)));
        Check.same("play of the last", plainly(plain).play(due.get(due.size() - 1)), 0);
    }

    private static DroppedPieces plainly(PlainShogi plain) {
        DroppedPieces x = Scene.cleared(new DroppedPieces());
        for (int s = 0; s < 81; s++) {
            x.put(s, plain.squares[s]);
        }
        for (int kind = 1; kind <= 7; kind++) {
            x.give(0, kind, plain.hands[0][kind]);
            x.give(1, kind, plain.hands[1][kind]);
        }
        x.start(plain.toMove);
        return x;
    }

    /** No square is empty: nothing can be dropped. */
    static void promise12FullBoard() {
        Sides sides = new Sides(fullBoard(), "18P18L18N18S18G18B18R");
        // Player 1's golds round the king can be taken: the one beside it and the one before it by two golds each,
        // the one aslant of it by four.
        sides.moves(2 + 2 + 4);
        sides.illegal(Setup.drop(5, 40), Setup.drop(1, 0), Setup.drop(7, 80));
    }

    private static String fullBoard() {
        return "kgGGGGGGG/ggGGGGGGG/GGGGGGGGG/GGGGGGGGG/GGGGGGGGG/GGGGGGGGG/GGGGGGGGG/GGGGGGGGG/GGGGKGGGG";
    }

    /** "whatever": a game that is over, or has 150 moves, has its legal moves all the same. */
    static void promise12WhenOver() {
        Check.same("drawn", Scene.DRAWN.make().moves(), 30);
        Check.same("150 moves", Scene.FULL.make().moves(), 8);
        DroppedPieces x = Scene.CHECKED_TO_MOVE.make();
        Check.same("result 4", x.moves(), 2);
    }

    /** "IllegalStateException when a position is being set up". */
    static void promise12WhileSettingUp() {
        Refused.state("moves()", Scene.setUps(), DroppedPieces::moves);
    }

    static void promise12OnlyLooks() {
        for (Scene scene : Scene.games()) {
            Refused.unchanged(scene + ": moves()", scene, x -> Check.same("twice", x.moves(), x.moves()));
        }
    }

    /** "Legal move k (from 0)": the first and the last one; "when there are not so many": -1 and as many. */
    static void promise13FirstAndLast() {
        for (Scene scene : Scene.games()) {
            DroppedPieces x = scene.make();
            int n = x.moves();
            if (n > 0) {
                Check.yes(scene + ": the first", x.isLegal(x.move(0)));
                Check.yes(scene + ": the last", x.isLegal(x.move(n - 1)));
            }
            Refused.unchanged(scene + ": move", scene, y -> {
                Check.index(scene + ": move(-1)", () -> y.move(-1));
                Check.index(scene + ": move(n)", () -> y.move(n));
                Check.index(scene + ": move(n + 1)", () -> y.move(n + 1));
            });
        }
    }

    static void promise13FarOutside() {
        Refused.each("move", Scene.games(), IndexOutOfBoundsException.class, Refused.outside(0, 600),
                DroppedPieces::move);
    }

    static void promise13NoLegalMove() {
        Refused.index("move of none", List.of(Scene.MATED, Scene.STALEMATED, Scene.MATE_PLAYED), x -> x.move(0),
                x -> x.move(-1), x -> x.move(1));
    }

    static void promise13LastOfMost() {
        DroppedPieces x = Setup.game("R8/2K1S1SSk/4B4/9/9/9/9/9/1L1L1L3 b RBGSNLP3g3n17p");
        Check.same("move(592)", x.move(592), Setup.drop(7, 80));
        Check.index("move(593)", () -> x.move(593));
    }

    /** "LEGAL MOVES are in the order of FROM, then TO, then P". */
    static void promise13Order() {
        for (Scene scene : Scene.games()) {
            DroppedPieces x = scene.make();
            int n = Math.min(x.moves(), 300);
            int before = -1;
            for (int k = 0; k < n; k++) {
                int move = x.move(k);
                Check.yes(scene + ": move " + k, before < 0 || comesBefore(before, move));
                before = move;
            }
        }
    }

    /** The whole list where a piece promotes or not, runs both ways, and is dropped. */
    static void promise13OrderOfPromotionsAndDrops() {
        DroppedPieces x = Setup.game("9/4P4/9/3N5/9/K7k/9/9/9 b G");
        Check.same("the pawn must promote", x.move(0), Setup.promote(13, 4));
        Check.same("the knight must promote, and not where the pawn is", x.move(1), Setup.promote(30, 11));
        Check.same("then the king", x.move(2), Setup.move(45, 36));
        Check.same("then the gold", x.move(7), Setup.drop(5, 0));
        DroppedPieces y = Setup.game("9/9/4S4/9/9/K7k/9/9/9 b -");
        int[] silver = {
            Setup.move(22, 12), Setup.promote(22, 12), Setup.move(22, 13), Setup.promote(22, 13),
            Setup.move(22, 14), Setup.promote(22, 14), Setup.move(22, 30), Setup.promote(22, 30),
            Setup.move(22, 32), Setup.promote(22, 32), Setup.move(45, 36), Setup.move(45, 37),
            Setup.move(45, 46), Setup.move(45, 54), Setup.move(45, 55)};
        Check.same("moves()", y.moves(), silver.length);
        for (int k = 0; k < silver.length; k++) {
            Check.same("move(" + k + ")", y.move(k), silver[k]);
        }
        DroppedPieces z = Setup.game("8k/9/9/9/9/9/9/9/K8 b PR");
        Check.same("the first drop: a pawn on square 9", z.move(3), Setup.drop(1, 9));
        Check.same("the last pawn", z.move(3 + 70), Setup.drop(1, 80));
        Check.same("the first rook", z.move(3 + 71), Setup.drop(7, 0));
        Check.same("the last rook", z.move(z.moves() - 1), Setup.drop(7, 80));
    }

    /** "of several exceptions the one that stands first": state before index. */
    static void promise13WhileSettingUp() {
        Refused.state("move", Scene.setUps(), x -> x.move(0), x -> x.move(-1), x -> x.move(600),
                x -> x.move(Integer.MIN_VALUE), x -> x.move(Integer.MAX_VALUE));
    }

    /** Just the listed moves are legal: every number from -1000 to 40000. */
    static void promise14EveryNumber() {
        for (Scene scene : List.of(Scene.NEW, Scene.STARTED, Scene.IN_CHECK, Scene.MATED)) {
            DroppedPieces lister = scene.make();
            int n = lister.moves();
            boolean[] listed = new boolean[41001];
            for (int k = 0; k < n; k++) {
                listed[lister.move(k) + 1000] = true;
            }
            DroppedPieces x = scene.make();
            for (int k = 0; k < listed.length; k++) {
                // An object answers 512 calls.
                x = k % 400 == 0 ? scene.make() : x;
                Check.same(scene + ": isLegal(" + (k - 1000) + ")", x.isLegal(k - 1000) ? 1 : 0, listed[k] ? 1 : 0);
            }
        }
    }

    /** Numbers far outside, and such as would be legal if some of their bits were cut off. */
    static void promise14FarOutside() {
        for (Scene scene : Scene.games()) {
            Refused.unchanged(scene + ": isLegal", scene, x -> {
                for (int move : Refused.outside(0, 32767)) {
                    Check.no(scene + ": isLegal(" + move + ")", x.isLegal(move));
                }
            });
        }
        DroppedPieces x = new DroppedPieces();
        int legal = Setup.move(60, 51);
        Check.yes("a legal move", x.isLegal(legal));
        for (int bit = 14; bit < 32; bit++) {
            Check.no("a legal move and bit " + bit, x.isLegal(legal + (1 << bit)));
        }
        Check.no("a legal move less than 0", x.isLegal(-legal));
        Check.no("all bits turned", x.isLegal(~legal));
        Check.no("a square less than 0", x.isLegal(60 + 128 * -1));
        Check.no("FROM and TO in one number", x.isLegal(60 + 128 + 128 * 50 + 16384));
    }

    /** "FROM 81 + kind: a piece of that kind 1 .. 7": not 81, not 89 and on. */
    static void promise14DroppedKinds() {
        DroppedPieces x = Setup.game("8k/9/9/9/9/9/9/9/K8 b PLNSGBR");
        for (int from = 81; from < 128; from++) {
            Check.same("isLegal of FROM " + from, x.isLegal(from + 128 * 40) ? 1 : 0, from > 81 && from < 89 ? 1 : 0);
            Check.no("P 1 of FROM " + from, x.isLegal(from + 128 * 40 + 16384));
        }
        for (int to = 81; to < 128; to++) {
            Check.no("isLegal of TO " + to, x.isLegal(Setup.drop(5, to)));
            Check.no("isLegal of the king's TO " + to, x.isLegal(Setup.move(72, to)));
        }
        Check.yes("the last square", x.isLegal(Setup.drop(5, 80)));
        Check.yes("the first square", x.isLegal(Setup.drop(5, 0)));
    }

    /** "P being 0": a drop into the zone does not promote. */
    static void promise14NoPromotionOfDrops() {
        Sides sides = new Sides("8k/9/9/9/9/9/9/9/K8", "PLNSGBR");
        for (int kind = 1; kind <= 7; kind++) {
            sides.legal(Setup.drop(kind, 20));
            sides.illegal(Setup.drop(kind, 20) + 16384);
        }
    }

    /** "IllegalStateException when a position is being set up", whatever the number. */
    static void promise14WhileSettingUp() {
        Refused.state("isLegal", Scene.setUps(), x -> x.isLegal(0), x -> x.isLegal(Setup.move(76, 67)),
                x -> x.isLegal(-1), x -> x.isLegal(Integer.MIN_VALUE), x -> x.isLegal(Integer.MAX_VALUE));
    }

    /** Legal when the game is over or has 150 moves: it is asked whether the move is, not whether it can be made. */
    static void promise14WhenOver() {
        Check.yes("drawn", Scene.DRAWN.make().isLegal(Setup.move(60, 51)));
        Check.yes("150 moves", Scene.FULL.make().isLegal(Scene.step(150)));
        Check.yes("result 3", Scene.CHECKER_TO_MOVE.make().isLegal(Setup.move(55, 54)));
        Check.yes("result 4", Scene.CHECKED_TO_MOVE.make().isLegal(Setup.move(0, 1)));
        Check.no("mated", Scene.MATED.make().isLegal(Setup.move(0, 9)));
    }

    /** "a piece there of the player to move": not an empty square, not the other one's. */
    static void promise14WhoseFrom() {
        DroppedPieces x = new DroppedPieces();
        Check.no("the other one's pawn", x.isLegal(Setup.move(18, 27)));
        Check.no("an empty square", x.isLegal(Setup.move(45, 36)));
        x.play(Setup.move(54, 45));
        Check.yes("the other one's pawn now", x.isLegal(Setup.move(18, 27)));
        Check.no("player 0's pawn now", x.isLegal(Setup.move(45, 36)));
    }

    /** "if no piece of its own player is there"; the other one's is taken. */
    static void promise14WhoseTo() {
        new Sides("9/9/9/3pG4/3RP4/K7k/9/9/9", "-").legal(Setup.move(39, 30))
                .illegal(Setup.move(39, 21), Setup.move(39, 40), Setup.move(39, 41), Setup.move(40, 31));
    }

    /** The zone's edge: rows 0 to 2 are in it, row 3 is not; FROM or TO in it is enough. */
    static void promise14ZoneOfAPawn() {
        new Sides("9/9/9/9/4P4" + KINGS_BELOW, "-").just(40, Setup.move(40, 31));
        new Sides("9/9/9/4P4/9" + KINGS_BELOW, "-").just(31, Setup.move(31, 22), Setup.promote(31, 22));
        new Sides("9/9/4P4/9/9" + KINGS_BELOW, "-").just(22, Setup.move(22, 13), Setup.promote(22, 13));
    }

    /** "It must promote when it could never move on: a pawn .. in the last row". */
    static void promise14PawnMustPromote() {
        new Sides("9/4P4/9/9/9" + KINGS_BELOW, "-").just(13, Setup.promote(13, 4)).illegal(Setup.move(13, 4));
        new Sides("4p4/4P4/9/9/9" + KINGS_BELOW, "-").just(13, Setup.promote(13, 4));
    }

    /** "or a lance in the last row": there it must, in the two before it may. */
    static void promise14LanceMustPromote() {
        new Sides("9/9/9/9/4L4" + KINGS_BELOW, "-").just(40, Setup.promote(40, 4), Setup.move(40, 13),
                Setup.promote(40, 13), Setup.move(40, 22), Setup.promote(40, 22), Setup.move(40, 31));
        new Sides("9/4L4/9/9/9" + KINGS_BELOW, "-").just(13, Setup.promote(13, 4)).illegal(Setup.move(13, 4));
        new Sides("9/9/9/4p4/4L4" + KINGS_BELOW, "-").just(40, Setup.move(40, 31));
    }

    /** "a knight in the last two": there it must, in the one before it may, further back it may not. */
    static void promise14KnightMustPromote() {
        new Sides("9/9/4N4/9/9" + KINGS_BELOW, "-").just(22, Setup.promote(22, 3), Setup.promote(22, 5));
        new Sides("9/9/9/4N4/9" + KINGS_BELOW, "-").just(31, Setup.promote(31, 12), Setup.promote(31, 14));
        new Sides("9/9/9/9/4N4" + KINGS_BELOW, "-").just(40, Setup.move(40, 21), Setup.promote(40, 21),
                Setup.move(40, 23), Setup.promote(40, 23));
        new Sides("9/9/9/9/9/K3N3k/9/9/9", "-").just(49, Setup.move(49, 30), Setup.move(49, 32));
    }

    /** A silver, bishop, rook promotes when it goes into the zone, within it or out of it, never must. */
    static void promise14ZoneOfASilver() {
        new Sides("9/9/4S4/9/9" + KINGS_BELOW, "-").just(22, Setup.move(22, 12), Setup.promote(22, 12),
                Setup.move(22, 13), Setup.promote(22, 13), Setup.move(22, 14), Setup.promote(22, 14),
                Setup.move(22, 30), Setup.promote(22, 30), Setup.move(22, 32), Setup.promote(22, 32));
        new Sides("9/9/9/4S4/9" + KINGS_BELOW, "-").just(31, Setup.move(31, 21), Setup.promote(31, 21),
                Setup.move(31, 22), Setup.promote(31, 22), Setup.move(31, 23), Setup.promote(31, 23),
                Setup.move(31, 39), Setup.move(31, 41));
        new Sides("9/4S4/9/9/9" + KINGS_BELOW, "-").legal(Setup.move(13, 4), Setup.promote(13, 4),
                Setup.move(13, 21), Setup.promote(13, 21));
    }

    static void promise14ZoneOfABishop() {
        new Sides("9/9/9/4B4/9" + KINGS_BELOW, "-").just(31, Setup.move(31, 1), Setup.promote(31, 1),
                Setup.move(31, 7), Setup.promote(31, 7), Setup.move(31, 11), Setup.promote(31, 11),
                Setup.move(31, 15), Setup.promote(31, 15), Setup.move(31, 21), Setup.promote(31, 21),
                Setup.move(31, 23), Setup.promote(31, 23), Setup.move(31, 39), Setup.move(31, 41),
                Setup.move(31, 47), Setup.move(31, 51), Setup.move(31, 55), Setup.move(31, 61),
                Setup.move(31, 63), Setup.move(31, 71));
        new Sides("9/9/4B4/9/9" + KINGS_BELOW, "-").legal(Setup.move(22, 62), Setup.promote(22, 62),
                Setup.move(22, 2), Setup.promote(22, 2));
    }

    static void promise14ZoneOfARook() {
        new Sides("9/9/9/4R4/9" + KINGS_BELOW, "-").legal(Setup.move(31, 4), Setup.promote(31, 4),
                Setup.move(31, 22), Setup.promote(31, 22), Setup.move(31, 27), Setup.move(31, 40))
                .illegal(Setup.promote(31, 27), Setup.promote(31, 40), Setup.promote(31, 76));
        new Sides("9/9/4R4/9/9" + KINGS_BELOW, "-").legal(Setup.move(22, 76), Setup.promote(22, 76),
                Setup.move(22, 18), Setup.promote(22, 18), Setup.move(22, 26), Setup.promote(22, 26));
    }

    /** "kinds 1 .. 4, 6, 7": no gold, king or promoted piece promotes, in the zone or into it. */
    static void promise14WhatDoesNotPromote() {
        new Sides("9/9/4G4/9/9" + KINGS_BELOW, "-").just(22, Setup.move(22, 12), Setup.move(22, 13),
                Setup.move(22, 14), Setup.move(22, 21), Setup.move(22, 23), Setup.move(22, 31));
        new Sides("9/9/4K4/9/9/9/8k/9/9", "-").illegal(Setup.promote(22, 13), Setup.promote(22, 31));
        new Sides("9/9/9/4K4/9/9/8k/9/9", "-").illegal(Setup.promote(31, 22));
        for (String promoted : List.of("+P", "+L", "+N", "+S")) {
            new Sides("9/9/9/4" + promoted + "4/9" + KINGS_BELOW, "-").just(31, Setup.move(31, 21),
                    Setup.move(31, 22), Setup.move(31, 23), Setup.move(31, 30), Setup.move(31, 32),
                    Setup.move(31, 40));
            new Sides("4" + promoted + "4/9/9/9/9" + KINGS_BELOW, "-").just(4, Setup.move(4, 3), Setup.move(4, 5),
                    Setup.move(4, 13));
        }
        new Sides("9/9/4+B4/9/9" + KINGS_BELOW, "-").legal(Setup.move(22, 13), Setup.move(22, 12))
                .illegal(Setup.promote(22, 13), Setup.promote(22, 12), Setup.promote(22, 62));
        new Sides("9/9/4+R4/9/9" + KINGS_BELOW, "-").legal(Setup.move(22, 13), Setup.move(22, 12))
                .illegal(Setup.promote(22, 13), Setup.promote(22, 12), Setup.promote(22, 76));
    }

    /** "on the empty square TO": neither on a piece of its own nor on the other one's. */
    static void promise14DropOnEmptySquares() {
        Sides sides = new Sides("9/9/9/4p4/4P4" + KINGS_BELOW, "SGBR");
        for (int kind = 4; kind <= 7; kind++) {
            sides.legal(Setup.drop(kind, 30), Setup.drop(kind, 0), Setup.drop(kind, 80));
            sides.illegal(Setup.drop(kind, 31), Setup.drop(kind, 40), Setup.drop(kind, 45), Setup.drop(kind, 53));
        }
    }

    /** "not where it could never move on": each of the last rows, every column. */
    static void promise14DropsInTheLastRows() {
        Sides sides = new Sides("9/9/9/9/9" + KINGS_BELOW, "PLNSGBR");
        for (int column = 0; column < 9; column++) {
            for (int kind = 1; kind <= 7; kind++) {
                int rowsBarred = kind == 3 ? 2 : kind < 3 ? 1 : 0;
                for (int row = 0; row < 3; row++) {
                    int move = Setup.drop(kind, 9 * row + column);
                    sides = row < rowsBarred ? sides.illegal(move) : sides.legal(move);
                }
            }
            sides = new Sides("9/9/9/9/9" + KINGS_BELOW, "PLNSGBR");
        }
    }

    /** "from the hand": none of a kind, one of it, and none again when it is dropped. */
    static void promise14HandOfNone() {
        new Sides("9/9/9/9/9" + KINGS_BELOW, "-").illegal(Setup.drop(1, 40), Setup.drop(5, 40), Setup.drop(7, 40));
        new Sides("9/9/9/9/9" + KINGS_BELOW, "g").illegal(Setup.drop(5, 40));
        new Sides("9/9/9/9/9" + KINGS_BELOW, "G").legal(Setup.drop(5, 40)).play(Setup.drop(5, 40), 0)
                .play(Setup.move(53, 62), 0).hand(0, 5, 0).illegal(Setup.drop(5, 41));
        new Sides("9/9/9/9/9" + KINGS_BELOW, "2G").play(Setup.drop(5, 40), 0).play(Setup.move(53, 62), 0)
                .hand(0, 5, 1).legal(Setup.drop(5, 41));
    }

    /** "a pawn not in a column where the player has a pawn already": every column, whatever the pawn's row. */
    static void promise14PawnInEveryColumn() {
        for (int column = 0; column < 9; column++) {
            for (int row = 1; row < 9; row++) {
                int pawn = 9 * row + column;
                DroppedPieces x = Scene.cleared(new DroppedPieces());
                // Kings in the columns beside are never before a pawn that is dropped.
                int aside = (column + 4) % 9;
                x.put(aside, -8);
                x.put(72 + aside, 8);
                x.put(pawn, 1);
                x.give(0, 1, 1);
                x.start(0);
                for (int to = 9; to < 81; to++) {
                    boolean due = to % 9 != column && x.at(to) == 0;
                    Check.same("pawn on " + pawn + ": isLegal of one on " + to, x.isLegal(Setup.drop(1, to)) ? 1 : 0,
                            due ? 1 : 0);
                }
            }
        }
    }

    /** "(a promoted one doesn't count)", nor does the other one's, nor another kind. */
    static void promise14ColumnsThatAreFree() {
        new Sides("9/9/9/3+PpL3/3P5" + KINGS_BELOW, "P").illegal(Setup.drop(1, 66), Setup.drop(1, 21))
                .legal(Setup.drop(1, 67), Setup.drop(1, 68));
        new Sides("9/9/9/3+P5/9" + KINGS_BELOW, "P").legal(Setup.drop(1, 66), Setup.drop(1, 21));
        // The rule is for pawns alone.
        new Sides("9/9/9/3PL4/9" + KINGS_BELOW, "LG").legal(Setup.drop(2, 66), Setup.drop(5, 66), Setup.drop(2, 67));
    }

    /** A column is free again when the pawn promotes or is taken, and barred again when that is taken back. */
    static void promise14ColumnFreeAgain() {
        new Sides("9/9/9/3P5/9" + KINGS_BELOW, "P").illegal(Setup.drop(1, 66)).play(Setup.promote(30, 21), 0)
                .play(Setup.move(53, 62), 0).legal(Setup.drop(1, 66)).back(Setup.move(53, 62))
                .back(Setup.promote(30, 21)).illegal(Setup.drop(1, 66));
        new Sides("9/9/9/3P5/9" + KINGS_BELOW, "P").play(Setup.move(30, 21), 0).play(Setup.move(53, 62), 0)
                .illegal(Setup.drop(1, 66));
        new Sides("9/9/3g5/3P5/9" + KINGS_BELOW, "P").play(Setup.move(45, 54), 0).play(Setup.move(21, 30), 1)
                .legal(Setup.drop(1, 66)).hand(1, 1, 1);
    }

    /** "the player is not in check behind it": each move of a king that is in check or may not step aside. */
    static void promise14NotInCheckBehindIt() {
        new Sides("4r4/9/9/9/9/9/9/4K4/8k", "-").just(67, Setup.move(67, 57), Setup.move(67, 59),
                Setup.move(67, 66), Setup.move(67, 68), Setup.move(67, 75), Setup.move(67, 77));
        new Sides("3r1r3/9/9/9/9/9/9/4K4/8k", "-").just(67, Setup.move(67, 58), Setup.move(67, 76));
        new Sides("9/9/9/9/4k4/9/4K4/9/9", "-").just(58, Setup.move(58, 57), Setup.move(58, 59),
                Setup.move(58, 66), Setup.move(58, 67), Setup.move(58, 68));
    }

    /** A piece that shields the king moves along the line only, to the piece that threatens, which it may take. */
    static void promise14Shield() {
        new Sides("4r4/9/9/4R4/9/9/9/4K4/8k", "-").just(31, Setup.move(31, 4), Setup.promote(31, 4),
                Setup.move(31, 13), Setup.promote(31, 13), Setup.move(31, 22), Setup.promote(31, 22),
                Setup.move(31, 40), Setup.move(31, 49), Setup.move(31, 58));
        new Sides("4r4/9/9/4B4/9/9/9/4K4/8k", "-").just(31);
        new Sides("4r4/9/9/4N4/9/9/9/4K4/8k", "-").just(31);
        new Sides("9/9/9/b8/9/2S6/9/4K4/8k", "-").just(47, Setup.move(47, 37),
                Setup.move(47, 57));
        // Of two, each is free to go: the other one stays.
        new Sides("4r4/9/9/4R4/9/4S4/9/4K4/8k", "-").legal(Setup.move(31, 30), Setup.move(49, 39), Setup.move(31, 40));
        new Sides("9/9/9/9/9/9/9/r3G3K/k8", "-").just(67, Setup.move(67, 66), Setup.move(67, 68));
    }

    /** In check: the piece that checks is taken, the line is barred, or the king goes. */
    static void promise14AnswersToCheck() {
        Sides sides = new Sides("4r4/9/8R/9/G8/9/9/4K4/k8", "P");
        sides.legal(Setup.move(26, 22), Setup.drop(1, 13), Setup.drop(1, 58));
        sides.illegal(Setup.promote(26, 18), Setup.move(26, 25), Setup.drop(1, 4), Setup.drop(1, 67),
                Setup.drop(1, 76), Setup.drop(1, 57), Setup.move(36, 27));
        new Sides("9/9/9/9/9/3n5/R8/4K4/8k", "G").just(67, Setup.move(67, 57), Setup.move(67, 58),
                Setup.move(67, 59), Setup.move(67, 66), Setup.move(67, 68), Setup.move(67, 75), Setup.move(67, 76),
                Setup.move(67, 77));
        // A knight on either side: it is taken, or the king goes, but nothing stands between.
        new Sides("9/9/9/9/9/R2n5/9/4K4/8k", "G").just(45, Setup.move(45, 48))
                .illegal(Setup.drop(5, 57), Setup.drop(5, 58));
        new Sides("9/9/9/9/9/R4n3/9/4K4/8k", "G").just(45, Setup.move(45, 50))
                .illegal(Setup.drop(5, 59), Setup.drop(5, 58));
    }

    /** Two checks at once: only the king moves. */
    static void promise14TwoChecks() {
        Sides sides = new Sides("4r4/9/9/9/9/3n5/9/4K4/8k", "18P18G");
        sides.illegal(Setup.drop(5, 58), Setup.drop(1, 58), Setup.drop(5, 13));
        DroppedPieces x = Setup.game("4r4/9/9/9/9/9/3n5/9/4K3k b 18P18G");
        Check.same("two checks", x.moves(), 4);
        for (int k = 0; k < 4; k++) {
            Check.same("the king moves", x.move(k) % 128, 76);
        }
    }

    /** "no pawn that is dropped so that the other one is in check and has no legal move". */
    static void promise14MateByADroppedPawn() {
        new Sides("kl7/2G6/1S7/9/9/9/9/9/4K4", "P").illegal(Setup.drop(1, 9)).legal(Setup.drop(1, 18));
        new Sides("kl7/2G6/1S7/9/9/9/9/9/4K4", "L").legal(Setup.drop(2, 9));
        new Sides("kl7/2G6/PS7/9/9/9/9/9/4K4", "-").legal(Setup.move(18, 9), Setup.promote(18, 9));
    }

    /** Not barred when the other one has but one answer: the king goes, takes the pawn, or another piece takes it. */
    static void promise14CheckByADroppedPawn() {
        new Sides("k8/9/1S7/9/9/9/9/9/4K4", "P").legal(Setup.drop(1, 9));
        new Sides("k8/2G6/1S7/9/9/9/9/9/4K4", "P").illegal(Setup.drop(1, 9));
        new Sides("kl7/2G6/9/9/9/9/9/9/4K4", "P").legal(Setup.drop(1, 9));
        new Sides("kl7/2G6/1S7/9/9/r8/9/9/4K4", "P").legal(Setup.drop(1, 9));
        new Sides("kl7/2G6/1S7/1n7/9/9/9/9/4K4", "P").illegal(Setup.drop(1, 9));
        new Sides("kl7/2G6/gS7/9/9/9/9/9/4K4", "P").legal(Setup.drop(1, 9));
    }

    /** Barred, or not, anew with every position. */
    static void promise14MateByADroppedPawnLaterOn() {
        new Sides("kl7/2G6/9/1S6p/9/9/9/9/4K4", "P").legal(Setup.drop(1, 9)).play(Setup.move(28, 19), 0)
                .play(Setup.move(35, 44), 0).illegal(Setup.drop(1, 9)).back(Setup.move(35, 44))
                .back(Setup.move(28, 19)).legal(Setup.drop(1, 9));
    }

    /** A piece that could take the dropped pawn, but shields its king, is no answer. */
    static void promise14MateThoughAShieldStandsBy() {
        new Sides("kg6R/9/1S7/9/9/9/9/9/4K4", "P").illegal(Setup.drop(1, 9));
        new Sides("kg7/9/1S7/9/9/9/9/9/4K4", "P").legal(Setup.drop(1, 9));
    }

    /** A full hand of the other one is no answer: nothing stands between a pawn and the king. */
    static void promise14NoDropAnswersAPawn() {
        new Sides("kl7/2G6/1S7/9/9/9/9/9/4K4", "P18p18l18n18s18g18b18r").illegal(Setup.drop(1, 9));
    }

    /** A dropped pawn that gives no check is not barred, though no legal move is left. */
    static void promise14NoMoveWithoutCheck() {
        new Sides("k8/8R/2N6/9/9/9/9/9/4K4", "P").legal(Setup.drop(1, 40)).play(Setup.drop(1, 40), 0).result(1);
    }

    /** "No king is ever taken": no legal move goes to where a king is. */
    static void promise14NoKingIsTaken() {
        for (Scene scene : Scene.games()) {
            DroppedPieces x = scene.make();
            int[] values = new int[81];
            for (int s = 0; s < 81; s++) {
                values[s] = x.at(s);
            }
            int n = Math.min(x.moves(), 250);
            for (int k = 0; k < n; k++) {
                int to = x.move(k) / 128 % 128;
                Check.no(scene + ": a king on " + to, values[to] == 8 || values[to] == -8);
            }
        }
    }
}
