import java.util.List;
import java.util.NoSuchElementException;

/** Boundary cases of promises 15 to 19: result, times, play, back, made. */
public final class GameBoundaryTest {
    // A rook drives a king to and fro: each move of the rook gives check.
    private static final int[] CHASE = {
        Setup.move(55, 54), Setup.move(0, 1), Setup.move(54, 55), Setup.move(1, 0)};
    // The same, but that the rook's first move gives no check.
    private static final int[] LAZY_CHASE = {
        Setup.move(55, 56), Setup.move(0, 1), Setup.move(56, 55), Setup.move(1, 0)};
    private static final int[] FLIGHT = {
        Setup.move(0, 1), Setup.move(54, 55), Setup.move(1, 0), Setup.move(55, 54)};
    private static final int[] LAZY_FLIGHT = {
        Setup.move(0, 1), Setup.move(54, 56), Setup.move(1, 0), Setup.move(56, 54)};

    public static void main(String[] args) {
        Check.runAll(GameBoundaryTest.class);
    }

    private static Sides played(Sides sides, int... moves) {
        for (int move : moves) {
            sides.play(move, 0);
        }
        return sides;
    }

    /** "It GOES ON (0)". */
    static void promise15GoesOn() {
        for (Scene scene : Scene.goingOn()) {
            Check.same("result() in " + scene, scene.make().result(), 0);
        }
    }

    /** A game with 150 moves is not over for that. */
    static void promise15GoesOnWith150Moves() {
        Check.same("result()", Scene.FULL.make().result(), 0);
        Check.same("result() of the fourth time just then", Scene.FULL_AND_DRAWN.make().result(), 2);
        Check.same("made() then", Scene.FULL_AND_DRAWN.make().made(), 150);
    }

    /** "1 when the player to move has no legal move", in check or not; one move is enough to go on. */
    static void promise15NoLegalMove() {
        Check.same("mated", Scene.MATED.make().result(), 1);
        Check.same("mate played", Scene.MATE_PLAYED.make().result(), 1);
        Check.same("not in check", Scene.STALEMATED.make().result(), 1);
        Check.same("one move", Setup.game("k8/9/1R7/9/9/9/9/9/4K4 w -").result(), 0);
        Check.same("a drop, no other move", Setup.game("k8/8R/2N6/9/9/9/9/9/4K4 w p").result(), 0);
        DroppedPieces x = Scene.MATE_PLAYED.make();
        x.back();
        Check.same("mate taken back", x.result(), 0);
    }

    /** The one move that is left would be mate by a dropped pawn: none is left. */
    static void promise15OnlyMoveIsMateByADroppedPawn() {
        String top = "GGGGGGGGG/LLLLLLLLL/";
        String rest = "/LLLLLLLLL/LLLLkLLLL/LLLL1LLLL/LLLLKSrLL/LLLLLLNLL/LLLLLLLLL";
        new Sides(top + "LLLLGLLLL" + rest, "P").moves(0).result(1).notLegal(Setup.drop(1, 49));
        new Sides(top + "LLLLGLLLL" + rest, "L").moves(1).result(0).legal(Setup.drop(2, 49));
        // The king can take a lance behind it that no one guards.
        new Sides(top + "LLLLLLLLL" + rest, "P").moves(1).result(0).legal(Setup.drop(1, 49));
    }

    /** "when the position is there for the fourth time at least": not for the third. */
    static void promise15FourthTime() {
        DroppedPieces x = new DroppedPieces();
        int[] round = {Setup.move(70, 69), Setup.move(10, 11), Setup.move(69, 70), Setup.move(11, 10)};
        for (int k = 0; k < 12; k++) {
            Check.same("result() behind " + k + " moves", x.result(), 0);
            Check.same("times() behind " + k + " moves", x.times(), 1 + k / 4);
            x.play(round[k % 4]);
        }
        Check.same("times() the fourth time", x.times(), 4);
        Check.same("result() the fourth time", x.result(), 2);
        x.back();
        Check.same("result() when that is taken back", x.result(), 0);
        x.play(Setup.move(11, 10));
        Check.same("result() when it is played again", x.result(), 2);
    }

    /** "since the game began": a position that came later than the first one. */
    static void promise15FourthTimeOfALaterPosition() {
        Sides sides = new Sides("4k4/9/9/9/9/9/9/9/4K4", "-");
        played(sides, Setup.move(76, 67), Setup.move(4, 13));
        for (int k = 0; k < 3; k++) {
            sides.result(0).times(k + 1);
            played(sides, Setup.move(67, 58), Setup.move(13, 12), Setup.move(58, 67), Setup.move(12, 13));
        }
        sides.times(4).result(2);
    }

    /** The fourth time need not come by the same moves. */
    static void promise15FourthTimeByOtherMoves() {
        Sides sides = new Sides("4k4/9/9/9/9/9/9/9/4K4", "-");
        played(sides, Setup.move(76, 75), Setup.move(4, 3), Setup.move(75, 76), Setup.move(3, 4));
        played(sides, Setup.move(76, 77), Setup.move(4, 5), Setup.move(77, 67), Setup.move(5, 13),
                Setup.move(67, 76), Setup.move(13, 4));
        sides.times(3).result(0);
        played(sides, Setup.move(76, 66), Setup.move(4, 14), Setup.move(66, 76));
        sides.result(0);
        played(sides, Setup.move(14, 4));
        sides.times(4).result(2);
    }

    /** "3 when behind each move that the player to move made since .. the other one was in check". */
    static void promise15PlayerCheckedAlways() {
        Sides sides = new Sides("k8/9/9/9/9/9/1R7/9/8K", "-");
        for (int k = 0; k < 3; k++) {
            sides.result(0);
            played(sides, CHASE);
        }
        sides.times(4).result(3);
    }

    /** One move without check, in whichever round: drawn. */
    static void promise15PlayerOnceGaveNoCheck() {
        for (int lazy = 0; lazy < 3; lazy++) {
            Sides sides = new Sides("k8/9/9/9/9/9/1R7/9/8K", "-");
            for (int k = 0; k < 3; k++) {
                played(sides, k == lazy ? LAZY_CHASE : CHASE);
            }
            sides.times(4).result(2);
        }
    }

    /** "since the third time before this one": what was before does not count. */
    static void promise15PlayerGaveNoCheckBefore() {
        Sides sides = new Sides("9/k8/9/9/9/9/2R6/9/8K", "-");
        played(sides, Setup.move(56, 55), Setup.move(9, 0));
        for (int k = 0; k < 3; k++) {
            sides.result(0);
            played(sides, CHASE);
        }
        sides.times(4).result(3);
    }

    /** "otherwise 4 when that is so of the other player's moves". */
    static void promise15OtherCheckedAlways() {
        Sides sides = new Sides("k8/9/9/9/9/9/2R6/9/8K", "-");
        played(sides, Setup.move(56, 54));
        for (int k = 0; k < 3; k++) {
            sides.result(0);
            played(sides, FLIGHT);
        }
        sides.times(4).result(4);
    }

    static void promise15OtherOnceGaveNoCheck() {
        for (int lazy = 0; lazy < 3; lazy++) {
            Sides sides = new Sides("k8/9/9/9/9/9/2R6/9/8K", "-");
            played(sides, Setup.move(56, 54));
            for (int k = 0; k < 3; k++) {
                played(sides, k == lazy ? LAZY_FLIGHT : FLIGHT);
            }
            sides.times(4).result(2);
        }
    }

    static void promise15OtherGaveNoCheckBefore() {
        Sides sides = new Sides("9/k8/9/9/9/9/3R5/9/8K", "-");
        played(sides, Setup.move(57, 56), Setup.move(9, 0), Setup.move(56, 54));
        for (int k = 0; k < 3; k++) {
            sides.result(0);
            played(sides, FLIGHT);
        }
        sides.times(4).result(4);
    }

    /** The first position is in check: that check was no move's. */
    static void promise15CheckAtTheBeginningIsNoMove() {
        DroppedPieces x = Scene.CHECKED_TO_MOVE.make();
        Check.same("result()", x.result(), 4);
        Check.same("times()", x.times(), 4);
        x.back();
        Check.same("result() taken back", x.result(), 0);
    }

    /** When the game is over, what is taken back and played again counts as before. */
    static void promise15TakenBackAndPlayedAgain() {
        DroppedPieces x = Scene.CHECKER_TO_MOVE.make();
        for (int k = 0; k < 4; k++) {
            x.back();
        }
        Check.same("result() a round before", x.result(), 0);
        Scene.played(x, LAZY_CHASE);
        Check.same("the other way", x.result(), 2);
        for (int k = 0; k < 4; k++) {
            x.back();
        }
        Scene.played(x, CHASE);
        Check.same("the first way again", x.result(), 3);
    }

    /** "IllegalStateException when a position is being set up". */
    static void promise15WhileSettingUp() {
        Refused.state("result()", Scene.setUps(), DroppedPieces::result);
    }

    static void promise15OnlyLooks() {
        for (Scene scene : Scene.games()) {
            Refused.unchanged(scene + ": result()", scene, x -> Check.same("twice", x.result(), x.result()));
        }
    }

    /** "How often the position was there since the game began, now included": at first once. */
    static void promise16Once() {
        for (Scene scene : Scene.withoutMoves()) {
            Check.same("times() in " + scene, scene.make().times(), 1);
        }
        Check.same("times() behind 150 moves", Scene.FULL.make().times(), 1);
    }

    static void promise16FourTimes() {
        for (Scene scene : List.of(Scene.DRAWN, Scene.CHECKER_TO_MOVE, Scene.CHECKED_TO_MOVE,
                Scene.FULL_AND_DRAWN)) {
            DroppedPieces x = scene.make();
            Check.same("times() in " + scene, x.times(), 4);
            x.back();
            Check.yes("times() one move before", x.times() < 4);
        }
    }

    /** A position is "squares, hands, who is to move": the other one is to move. */
    static void promise16OtherOneToMove() {
        Sides sides = new Sides("k8/9/9/9/9/9/9/9/7K1", "-");
        played(sides, Setup.move(79, 80), Setup.move(0, 9), Setup.move(80, 70), Setup.move(9, 0),
                Setup.move(70, 79));
        sides.at(79, 8).at(0, -8).times(1);
        played(sides, Setup.move(0, 1), Setup.move(79, 80), Setup.move(1, 0), Setup.move(80, 79));
        sides.times(2);
    }

    /** The squares come again, but a piece is in another hand: each kind. */
    static void promise16OtherHands() {
        String kinds = "plnsgbr";
        for (int kind = 1; kind <= 7; kind++) {
            char c = kinds.charAt(kind - 1);
            Sides sides = new Sides("k8/9/9/9/4" + c + "4/4G4/9/9/6K2", "2" + c);
            sides.play(Setup.move(49, 40), kind);
            played(sides, Setup.move(0, 1), Setup.move(40, 49), Setup.drop(kind, 40));
            played(sides, Setup.move(78, 79), Setup.move(1, 9), Setup.move(79, 78), Setup.move(9, 0));
            sides.at(49, 5).at(40, -kind).at(78, 8).at(0, -8).hand(0, kind, 1).hand(1, kind, 1).times(1);
            played(sides, Setup.move(78, 79), Setup.move(0, 9), Setup.move(79, 78), Setup.move(9, 0));
            sides.times(2);
        }
    }

    /** Both have taken a pawn and dropped it: the squares, the hands and who is to move are as they were. */
    static void promise16SameHandsAgain() {
        Sides sides = new Sides("4k4/9/9/8g/p7P/G8/9/9/4K4", "-");
        sides.play(Setup.move(45, 36), 1).play(Setup.move(35, 44), 1);
        played(sides, Setup.move(36, 45), Setup.move(44, 35));
        sides.times(1).hand(0, 1, 1).hand(1, 1, 1);
        played(sides, Setup.drop(1, 44), Setup.drop(1, 36));
        sides.hand(0, 1, 0).hand(1, 1, 0).times(2);
    }

    /** A piece that has promoted is another one. */
    static void promise16OtherKind() {
        Sides sides = new Sides("9/9/4S4/9/9/K7k/9/9/9", "-");
        played(sides, Setup.promote(22, 13), Setup.move(53, 62), Setup.move(13, 22), Setup.move(62, 53));
        sides.at(22, 12).times(1);
        // The first and, turned round, the last square are all that differs.
        Sides corner = new Sides("S8/9/9/9/9/K7k/9/9/9", "-");
        played(corner, Setup.move(0, 10), Setup.move(53, 62), Setup.promote(10, 0), Setup.move(62, 53));
        corner.at(0, 12).times(1);
    }

    /** Two pieces of a kind have changed places: the squares have the same values. */
    static void promise16PiecesChangedPlaces() {
        Sides sides = new Sides("4k4/9/9/9/4GG3/9/9/9/4K4", "-");
        played(sides, Setup.move(40, 31), Setup.move(4, 3), Setup.move(41, 40), Setup.move(3, 4));
        played(sides, Setup.move(31, 32), Setup.move(4, 3), Setup.move(32, 41), Setup.move(3, 4));
        sides.times(2);
    }

    /** Taken back: it was there so often less. */
    static void promise16TakenBack() {
        DroppedPieces x = Scene.DRAWN.make();
        for (int k = 11; k >= 0; k--) {
            x.back();
            Check.same("times() behind " + k + " moves", x.times(), 1 + k / 4);
        }
    }

    static void promise16WhileSettingUp() {
        Refused.state("times()", Scene.setUps(), DroppedPieces::times);
    }

    static void promise16OnlyLooks() {
        for (Scene scene : Scene.games()) {
            Refused.unchanged(scene + ": times()", scene, x -> Check.same("twice", x.times(), x.times()));
        }
    }

    /** "the kind of the piece that was taken, as it stood there; 0 for none"; it comes unpromoted into the hand. */
    static void promise17EveryKindTaken() {
        String[] kinds = {"p", "l", "n", "s", "g", "b", "r", "", "+p", "+l", "+n", "+s", "", "+b", "+r"};
        for (int kind = 1; kind <= 15; kind++) {
            if (kind != 8 && kind != 13) {
                int inHand = kind > 8 ? kind - 8 : kind;
                new Sides("8k/9/9/9/4" + kinds[kind - 1] + "4/4R4/9/9/8K", "-").hand(0, inHand, 0)
                        .play(Setup.move(49, 40), kind).hand(0, inHand, 1).hand(1, inHand, 0).at(40, 7).at(49, 0)
                        .back(Setup.move(49, 40)).hand(0, inHand, 0).at(40, -kind).at(49, 7);
            }
        }
    }

    static void promise17NothingTaken() {
        new Sides("8k/9/9/4S4/9/9/9/9/8K", "G").play(Setup.promote(31, 22), 0).at(22, 12).at(31, 0)
                .play(Setup.move(8, 7), 0).play(Setup.drop(5, 31), 0).at(31, 5).hand(0, 5, 0);
    }

    /** "(its kind becomes 8 more)", also when it takes. */
    static void promise17EveryKindPromoted() {
        new Sides("9/9/4p4/4P4/9/K7k/9/9/9", "-").play(Setup.promote(31, 22), 1).at(22, 9);
        new Sides("9/4p4/9/4L4/9/K7k/9/9/9", "-").play(Setup.promote(31, 13), 1).at(13, 10);
        new Sides("9/3p5/9/4N4/9/K7k/9/9/9", "-").play(Setup.promote(31, 12), 1).at(12, 11);
        new Sides("9/9/3p5/4S4/9/K7k/9/9/9", "-").play(Setup.promote(31, 21), 1).at(21, 12);
        new Sides("9/9/3p5/4B4/9/K7k/9/9/9", "-").play(Setup.promote(31, 21), 1).at(21, 14);
        new Sides("9/9/4p4/4R4/9/K7k/9/9/9", "-").play(Setup.promote(31, 22), 1).at(22, 15);
    }

    /** A hand that is full takes on. */
    static void promise17NineteenInTheHand() {
        new Sides("8k/9/9/9/4+p4/4R4/9/9/8K", "18P").play(Setup.move(49, 40), 9).hand(0, 1, 19)
                .play(Setup.move(8, 7), 0).play(Setup.drop(1, 31), 0).hand(0, 1, 18);
    }

    /** "IllegalStateException when a position is being set up", whatever the number. */
    static void promise17WhileSettingUp() {
        Refused.state("play", Scene.setUps(), x -> x.play(Setup.move(76, 67)), x -> x.play(0), x -> x.play(-1),
                x -> x.play(Integer.MIN_VALUE), x -> x.play(Integer.MAX_VALUE));
    }

    /** "the game is over": by each of its four results, for a move that is legal and one that is not. */
    static void promise17Over() {
        Refused.state("play of a move that is none", Scene.over(), x -> x.play(-1), x -> x.play(0),
                x -> x.play(Integer.MIN_VALUE), x -> x.play(Integer.MAX_VALUE), x -> x.play(Setup.move(0, 9)));
        for (Scene scene : Scene.over()) {
            if (scene.make().moves() > 0) {
                Refused.state("play of a legal move", List.of(scene), x -> x.play(x.move(0)),
                        x -> x.play(x.move(x.moves() - 1)));
            }
        }
        Check.same("results 1 to 4 are among them", Scene.over().stream().mapToInt(s -> s.make().result()).distinct()
                .sum(), 1 + 2 + 3 + 4);
    }

    /** "or there are 150 moves": the 150th is made, the next one is not. */
    static void promise17TheLastMove() {
        DroppedPieces x = Scene.walk(149);
        Check.same("made()", x.made(), 149);
        Check.same("the 150th", x.play(Scene.step(149)), 0);
        Check.same("made()", x.made(), 150);
        Check.yes("the next one is legal", x.isLegal(Scene.step(150)));
        Check.state("the next one", () -> x.play(Scene.step(150)));
        Check.same("made()", x.made(), 150);
        Refused.state("play behind 150 moves", List.of(Scene.FULL), y -> y.play(Scene.step(150)), y -> y.play(-1),
                y -> y.play(Integer.MIN_VALUE), y -> y.play(Integer.MAX_VALUE));
    }

    static void promise17RoomAgainBehindBack() {
        DroppedPieces x = Scene.FULL.make();
        x.back();
        x.back();
        Check.same("the 149th again", x.play(Scene.step(148)), 0);
        Check.same("the 150th again", x.play(Scene.step(149)), 0);
        Check.state("no more", () -> x.play(Scene.step(150)));
    }

    /** "IllegalArgumentException when it is not legal": numbers far outside and of every wrong kind. */
    static void promise17NotLegal() {
        Refused.each("play", Scene.goingOn(), IllegalArgumentException.class, Refused.outside(0, 32767),
                DroppedPieces::play);
        Refused.argument("play of what is not legal", List.of(Scene.NEW, Scene.TAKEN_BACK, Scene.BEGUN_AGAIN),
                x -> x.play(0), x -> x.play(Setup.move(60, 42)), x -> x.play(Setup.promote(60, 51)),
                x -> x.play(Setup.move(18, 27)), x -> x.play(Setup.move(45, 36)), x -> x.play(Setup.drop(1, 40)),
                x -> x.play(Setup.move(81, 40)), x -> x.play(Setup.move(89, 40)), x -> x.play(Setup.move(76, 81)),
                x -> x.play(Setup.move(60, 51) + 32768), x -> x.play(Setup.move(72, 54)));
        Refused.argument("play that leaves the king in check", List.of(Scene.IN_CHECK),
                x -> x.play(Setup.move(4, 13)), x -> x.play(Setup.drop(5, 40)), x -> x.play(Setup.drop(1, 4)));
    }

    /** Each rule by which a move that looks right is not legal: refused, and nothing changes. */
    static void promise17NotLegalByOneRule() {
        refused("mate by a dropped pawn", "kl7/2G6/1S7/9/9/9/9/9/4K4 b P", Setup.drop(1, 9));
        refused("a second pawn in a column", "8k/9/9/4P4/9/9/9/9/K8 b P", Setup.drop(1, 67));
        refused("a pawn dropped in the last row", "8k/9/9/9/9/9/9/9/K8 b P", Setup.drop(1, 0));
        refused("a lance dropped in the last row", "8k/9/9/9/9/9/9/9/K8 w l", Setup.drop(2, 80));
        refused("a knight dropped in the last row but one", "8k/9/9/9/9/9/9/9/K8 w n", Setup.drop(3, 71));
        refused("a drop on a piece", "8k/9/9/4p4/9/9/9/9/K8 b G", Setup.drop(5, 31));
        refused("a drop that promotes", "8k/9/9/9/9/9/9/9/K8 b S", Setup.drop(4, 9) + 16384);
        refused("a pawn that must promote", "8k/P8/9/9/9/9/9/9/K8 b -", Setup.move(9, 0));
        refused("a lance that must promote", "8k/9/L8/9/9/9/9/9/K8 b -", Setup.move(18, 0));
        refused("a knight that must promote", "8k/9/9/9/9/n8/9/9/K8 w -", Setup.move(45, 64));
        refused("a gold that promotes", "8k/9/G8/9/9/9/9/9/K8 b -", Setup.promote(18, 9));
        refused("a promotion outside the zone", "8k/9/9/9/S8/9/9/9/K8 b -", Setup.promote(36, 27));
        refused("a shield that goes aside", "r7k/9/9/G8/9/9/9/9/K8 b -", Setup.move(27, 28));
        refused("a king that goes into check", "1r6k/9/9/9/9/9/9/9/K8 b -", Setup.move(72, 73));
        refused("a check that is not answered", "r7k/9/9/1G7/9/9/9/9/K8 b -", Setup.move(28, 29));
        refused("a run over a piece", "8k/9/9/9/R1P6/9/9/9/K8 b -", Setup.move(36, 39));
        refused("a piece of its own there", "8k/9/9/9/R1P6/9/9/9/K8 b -", Setup.move(36, 38));
    }

    private static void refused(String what, String position, int move) {
        Refused.unchanged(what, () -> Setup.game(position), x -> Check.argument(what, () -> x.play(move)));
    }

    /** "IllegalStateException when a position is being set up", whatever was before. */
    static void promise18WhileSettingUp() {
        Refused.state("back()", Scene.setUps(), DroppedPieces::back);
    }

    /** "NoSuchElementException when there is none". */
    static void promise18NoMove() {
        Refused.in("back()", Scene.withoutMoves(), NoSuchElementException.class, DroppedPieces::back);
    }

    /** "The latest move is taken back: it." All of them, and then there is none. */
    static void promise18AllMoves() {
        int[] moves = Scene.openingMoves();
        DroppedPieces x = Scene.PLAYED.make();
        for (int k = moves.length - 1; k >= 0; k--) {
            Check.same("back()", x.back(), moves[k]);
            Check.same("made()", x.made(), k);
            Check.same("player()", x.player(), k % 2);
        }
        Check.fails("back() once more", NoSuchElementException.class, x::back);
        Check.same("all is as at the beginning", View.difference(Scene.TAKEN_BACK.view(), Scene.NEW.view()), "");
    }

    static void promise18All150Moves() {
        DroppedPieces x = Scene.FULL.make();
        for (int k = 149; k >= 0; k--) {
            Check.same("back() to " + k, x.back(), Scene.step(k));
        }
        Check.same("made()", x.made(), 0);
        Check.same("at(54)", x.at(54), 8);
        Check.same("at(0)", x.at(0), -8);
        Check.fails("back() once more", NoSuchElementException.class, x::back);
    }

    /** Each legal move, played and taken back, leaves all as it was. */
    static void promise18EveryMoveThereAndBack() {
        for (Scene scene : Scene.goingOn()) {
            DroppedPieces lister = scene.make();
            int n = lister.moves();
            for (int k = 0; k < n; k++) {
                int move = lister.move(k);
                Refused.unchanged(scene + ": " + move + " there and back", scene, x -> {
                    x.play(move);
                    Check.same("back()", x.back(), move);
                });
            }
        }
    }

    /** A game that is over goes on when its latest move is taken back. */
    static void promise18WhenOver() {
        for (Scene scene : Scene.over()) {
            DroppedPieces x = scene.make();
            if (x.made() > 0) {
                int made = x.made();
                int move = x.back();
                Check.same(scene + ": made()", x.made(), made - 1);
                Check.same(scene + ": result()", x.result(), 0);
                Check.yes(scene + ": the move is legal again", x.isLegal(move));
                x.play(move);
                Check.yes(scene + ": over again", x.result() > 0);
            }
        }
    }

    /** Taken back, and another way taken: what was taken back is forgotten. */
    static void promise18AnotherWay() {
        DroppedPieces x = new DroppedPieces();
        Scene.played(x, Setup.move(60, 51), Setup.move(20, 29));
        x.back();
        x.play(Setup.move(24, 33));
        Check.same("back()", x.back(), Setup.move(24, 33));
        Check.same("back()", x.back(), Setup.move(60, 51));
        Check.fails("back() once more", NoSuchElementException.class, x::back);
    }

    /** "How many moves were made since the game began": in every scene. */
    static void promise19InEveryScene() {
        Check.same("five moves", Scene.PLAYED.make().made(), 5);
        for (Scene scene : Scene.withoutMoves()) {
            Check.same("made() in " + scene, scene.make().made(), 0);
        }
        Check.same("mate played", Scene.MATE_PLAYED.make().made(), 1);
        Check.same("drawn", Scene.DRAWN.make().made(), 12);
        Check.same("full", Scene.FULL.make().made(), 150);
        Check.same("drawn and full", Scene.FULL_AND_DRAWN.make().made(), 150);
    }

    /** "0 while a position is being set up", whatever was made before. */
    static void promise19WhileSettingUp() {
        for (Scene scene : Scene.setUps()) {
            Check.same("made() in " + scene, scene.make().made(), 0);
        }
        for (Scene scene : Scene.games()) {
            Check.same("made() cleared in " + scene, Scene.cleared(scene.make()).made(), 0);
        }
    }

    /** One more with each move, one less with each that is taken back, none for what is refused. */
    static void promise19UpAndDown() {
        DroppedPieces x = Scene.walk(0);
        for (int k = 0; k < 150; k++) {
            x.play(Scene.step(k));
            Check.same("made()", x.made(), k + 1);
        }
        Check.state("refused", () -> x.play(Scene.step(150)));
        Check.same("made() behind what is refused", x.made(), 150);
        x.back();
        Check.same("made() behind back", x.made(), 149);
        Check.argument("not legal", () -> x.play(-1));
        Check.same("made() behind what is not legal", x.made(), 149);
        x.begin();
        Check.same("made() behind begin", x.made(), 0);
    }

    /** "An object is used for at most 512 calls": all of them, with the row of moves filled, emptied and filled. */
    static void promise19FiveHundredAndTwelveCalls() {
        // Setting up takes four calls.
        DroppedPieces x = Scene.walk(0);
        for (int k = 0; k < 150; k++) {
            x.play(Scene.step(k));
        }
        for (int k = 149; k >= 0; k--) {
            Check.same("back()", x.back(), Scene.step(k));
        }
        for (int k = 0; k < 150; k++) {
            x.play(Scene.step(k));
        }
        for (int k = 455; k < 512; k++) {
            Check.same("count(2) in call " + k, x.count(2), 8 * 5);
        }
        Check.same("made() in call 512", x.made(), 150);
    }
}
