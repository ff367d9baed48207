import java.util.List;

/** Boundary cases of promises 20 and 21: count and mate. */
public final class LookAheadBoundaryTest {
    public static void main(String[] args) {
        Check.runAll(LookAheadBoundaryTest.class);
    }

    /** "How many rows of n legal moves": one row of none, as many of one as there are moves. */
    static void promise20NoneAndOne() {
        for (Scene scene : Scene.games()) {
            DroppedPieces x = scene.make();
            Check.same(scene + ": count(0)", x.count(0), 1);
            Check.same(scene + ": count(1)", x.count(1), x.moves());
        }
    }

    /** Rows of two: for each move as many as the other one then has. */
    static void promise20Two() {
        for (Scene scene : Scene.goingOn()) {
            DroppedPieces lister = scene.make();
            int n = lister.moves();
            int due = 0;
            for (int k = 0; k < n; k++) {
                DroppedPieces x = scene.make();
                x.play(x.move(k));
                due += x.moves();
            }
            Check.same(scene + ": count(2)", lister.count(2), due);
        }
    }

    /** Without a legal move there is a row of none, and no other. */
    static void promise20NoLegalMove() {
        for (Scene scene : List.of(Scene.MATED, Scene.STALEMATED, Scene.MATE_PLAYED)) {
            DroppedPieces x = scene.make();
            Check.same(scene + ": count(0)", x.count(0), 1);
            Check.same(scene + ": count(1)", x.count(1), 0);
            Check.same(scene + ": count(2)", x.count(2), 0);
        }
    }

    /** "whatever the result": when the game is over, as if it went on. */
    static void promise20WhenOver() {
        DroppedPieces x = Scene.DRAWN.make();
        Check.same("drawn: count(0)", x.count(0), 1);
        Check.same("drawn: count(1)", x.count(1), 30);
        Check.same("drawn: count(2)", x.count(2), 900);
        Check.same("result 3: count(2)", Scene.CHECKER_TO_MOVE.make().count(2),
                Setup.game("k8/9/9/9/9/9/1R7/9/8K b -").count(2));
        Check.same("result 4: count(2)", Scene.CHECKED_TO_MOVE.make().count(2),
                Setup.game("k8/9/9/9/9/9/R8/9/8K w -").count(2));
    }

    /** "whatever the result": a move that brings the fourth time has its answers too. */
    static void promise20BeforeTheFourthTime() {
        DroppedPieces x = Scene.DRAWN.make();
        x.back();
        Check.same("before the fourth time: count(2)", x.count(2),
                Setup.game("lnsgkgsnl/2r4b1/ppppppppp/9/9/9/PPPPPPPPP/1B5R1/LNSGKGSNL w -").count(2));
    }

    /** The row of moves being full, or nearly, counts for nothing. */
    static void promise20With150Moves() {
        DroppedPieces x = Scene.FULL.make();
        Check.same("150 moves: count(0)", x.count(0), 1);
        Check.same("150 moves: count(1)", x.count(1), 8);
        Check.same("150 moves: count(2)", x.count(2), 8 * 5);
        x.back();
        Check.same("149 moves: count(1)", x.count(1), 5);
        Check.same("149 moves: count(2)", x.count(2), 5 * 8);
    }

    /** A move behind which the other one has none adds none. */
    static void promise20MateAmongTheMoves() {
        DroppedPieces x = Setup.game("k8/9/1G7/9/9/9/9/8R/4K4 b -");
        int due = 0;
        int n = x.moves();
        for (int k = 0; k < n; k++) {
            x.play(x.move(k));
            due += x.moves();
            x.back();
        }
        Check.same("count(2)", x.count(2), due);
        Check.yes("a mate is among them", x.mate() >= 0);
    }

    /** "n is not 0 .. 2": -1 and 3, and far outside. */
    static void promise20NoSuchLength() {
        Refused.argument("count of -1 or 3", Scene.games(), x -> x.count(-1), x -> x.count(3));
        Refused.each("count", Scene.games(), IllegalArgumentException.class, Refused.outside(0, 2),
                DroppedPieces::count);
    }

    /** "of several exceptions the one that stands first": state before argument. */
    static void promise20WhileSettingUp() {
        Refused.state("count", Scene.setUps(), x -> x.count(0), x -> x.count(1), x -> x.count(2), x -> x.count(-1),
                x -> x.count(3), x -> x.count(Integer.MIN_VALUE), x -> x.count(Integer.MAX_VALUE));
    }

    static void promise20OnlyLooks() {
        for (Scene scene : Scene.games()) {
            Refused.unchanged(scene + ": count", scene, x -> {
                for (int n = 0; n <= 2; n++) {
                    Check.same(scene + ": twice", x.count(n), x.count(n));
                }
            });
        }
    }

    /** "-1 when there is none". */
    static void promise21None() {
        Check.same("new", new DroppedPieces().mate(), -1);
        Check.same("kings alone", Setup.game("4k4/9/9/9/9/9/9/9/4K4 b -").mate(), -1);
        for (Scene scene : List.of(Scene.MATED, Scene.STALEMATED, Scene.MATE_PLAYED)) {
            Check.same(scene + ": mate()", scene.make().mate(), -1);
        }
    }

    /** The player to move is mated itself, whatever stands there. */
    static void promise21MatedItself() {
        Check.same("mate()", Setup.game("k8/1G7/1P7/9/9/9/7p1/9/7K1 w g").mate(), -1);
        Check.same("mate() if it was not", Setup.game("k8/9/9/9/9/9/7p1/9/7K1 w g").mate(), Setup.drop(5, 70));
    }

    /** "The first legal move": by FROM, squares before drops. */
    static void promise21FirstByFrom() {
        DroppedPieces x = Setup.game("k8/9/1G7/9/9/9/9/8R/4K4 b RG");
        Check.same("the rook before the drops", x.mate(), Setup.move(71, 8));
        DroppedPieces z = Setup.game("k8/9/1G7/9/9/9/7R1/8R/4K4 b -");
        Check.same("of two rooks the one on the lower square", z.mate(), Setup.move(61, 7));
        DroppedPieces drops = Setup.game("k8/9/1G7/9/9/9/9/9/4K4 b RG");
        Check.same("of drops the lower kind", drops.mate(), Setup.drop(5, 9));
        DroppedPieces silver = Setup.game("k8/9/1G7/9/9/9/9/9/4K4 b RGS");
        Check.same("of three drops the lowest kind", silver.mate(), Setup.drop(4, 9));
    }

    /** "then TO". */
    static void promise21FirstByTo() {
        DroppedPieces x = Setup.game("k8/9/1G7/9/9/9/9/9/4K4 b R");
        Check.same("the rook on the lowest square where the king can't take it", x.mate(), Setup.drop(7, 2));
        DroppedPieces y = Setup.game("k8/9/1G7/9/9/9/9/9/4K4 b G");
        Check.same("the gold", y.mate(), Setup.drop(5, 9));
    }

    /** "then P": the one that does not promote comes first, when it mates too. */
    static void promise21FirstByP() {
        DroppedPieces x = Setup.game("k8/9/1G7/9/9/9/9/8R/4K4 b -");
        Check.same("both mate", x.mate(), Setup.move(71, 8));
        Check.yes("the other one is legal", x.isLegal(Setup.promote(71, 8)));
        DroppedPieces y = Setup.game("4k4/9/3SP4/9/9/9/9/9/4K4 b -");
        y.play(Setup.promote(21, 13));
        Check.same("the promoted silver mates", y.result(), 1);
        y.back();
        y.play(Setup.move(21, 13));
        Check.same("the silver does not", y.result(), 0);
        y.back();
        Check.same("only the promoted one mates", y.mate(), Setup.promote(21, 13));
    }

    /** "in check and has no legal move": not without check. */
    static void promise21NoCheck() {
        DroppedPieces x = Setup.game("k8/9/2N6/8R/9/9/9/9/4K4 b -");
        Check.same("mate()", x.mate(), -1);
        x.play(Setup.move(35, 17));
        Check.same("though no legal move is left", x.result(), 1);
    }

    /** "and has no legal move": not when there is but one answer, of each sort. */
    static void promise21OneAnswer() {
        new Sides("4k4/9/4P4/9/9/9/9/9/4K4", "G").mate(Setup.drop(5, 13));
        new Sides("4k4/9/9/9/9/9/9/9/4K4", "G").mate(-1);
        new Sides("4k4/9/4P4/4r4/9/9/9/9/8K", "G").mate(Setup.drop(5, 13));
        new Sides("4k4/r8/4P4/9/9/9/9/9/4K4", "G").mate(-1);
        new Sides("k8/9/1G7/9/9/9/9/8R/4K4", "-").mate(Setup.move(71, 8));
        new Sides("k8/9/1G7/9/9/9/9/8R/4K4", "p").mate(-1);
        new Sides("k8/9/1G7/9/9/1ppppppp1/9/8R/4K4", "p").mate(Setup.move(71, 8));
        new Sides("k8/9/1G7/9/9/1pppp1pp1/9/8R/4K4", "p").mate(-1);
    }

    /** A mate by a dropped pawn is no legal move: none, or the next one. */
    static void promise21NotByADroppedPawn() {
        new Sides("kl7/2G6/1S7/9/9/9/9/9/4K4", "P").mate(-1);
        new Sides("kl7/2G6/1S7/9/9/9/9/9/4K4", "PL").mate(Setup.drop(2, 9));
        new Sides("kl7/2G6/PS7/9/9/9/9/9/4K4", "P").mate(Setup.move(18, 9));
    }

    /** Told when the game is over, too, and with 150 moves, though it can't be played. */
    static void promise21WhenOver() {
        DroppedPieces x = Setup.game("4k4/9/4P4/9/9/9/9/9/4K4 b G");
        Scene.rounds(3, x, Setup.move(76, 75), Setup.move(4, 3), Setup.move(75, 76), Setup.move(3, 4));
        Check.same("result()", x.result(), 2);
        Check.same("mate()", x.mate(), Setup.drop(5, 13));
        Check.state("play", () -> x.play(Setup.drop(5, 13)));
    }

    static void promise21With150Moves() {
        // One king walks round, the other to and fro in its last row, until it stands before the pawn.
        DroppedPieces x = Setup.game("k8/9/5P3/9/9/9/K8/9/9 b G");
        for (int k = 0; k < 150; k++) {
            int t = k / 2;
            x.play(k % 2 == 0 ? Scene.step(k) : Setup.move(column(t), column(t + 1)));
        }
        Check.same("made()", x.made(), 150);
        Check.same("result()", x.result(), 0);
        Check.same("mate()", x.mate(), Setup.drop(5, 14));
        Check.state("play", () -> x.play(Setup.drop(5, 14)));
        int latest = x.back();
        Check.same("mate() of the other one", x.mate(), -1);
        x.play(latest);
        Check.same("mate() again", x.mate(), Setup.drop(5, 14));
    }

    private static int column(int t) {
        return t % 16 <= 8 ? t % 16 : 16 - t % 16;
    }

    /** By a piece that steps aside and gives no check itself. */
    static void promise21StepsAside() {
        DroppedPieces x = Setup.game("3lkl3/3p1p3/9/9/4B4/9/9/4L4/4K4 b -");
        Check.same("the bishop goes to its lowest square", x.mate(), Setup.move(40, 0));
    }

    /** In every scene that goes on, the first move that turns out so when it is played. */
    static void promise21AsPlayed() {
        for (Scene scene : Scene.goingOn()) {
            DroppedPieces lister = scene.make();
            int n = lister.moves();
            int due = -1;
            for (int k = 0; k < n && due < 0; k++) {
                DroppedPieces x = scene.make();
                int move = lister.move(k);
                x.play(move);
                due = x.inCheck(x.player()) && x.moves() == 0 ? move : -1;
            }
            Check.same(scene + ": mate()", lister.mate(), due);
        }
    }

    static void promise21WhileSettingUp() {
        Refused.state("mate()", Scene.setUps(), DroppedPieces::mate);
    }

    static void promise21OnlyLooks() {
        for (Scene scene : Scene.games()) {
            Refused.unchanged(scene + ": mate()", scene, x -> Check.same("twice", x.mate(), x.mate()));
        }
    }
}
