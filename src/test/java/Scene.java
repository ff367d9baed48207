import java.util.List;
import java.util.stream.Stream;

/** Situations that an object may be in; each is made anew, with fewer than 200 calls, whenever it is asked for. */
enum Scene {
    NEW, PLAYED, TAKEN_BACK, BEGUN_AGAIN, STARTED, IN_CHECK, FULL,
    MATED, MATE_PLAYED, STALEMATED, DRAWN, CHECKER_TO_MOVE, CHECKED_TO_MOVE, FULL_AND_DRAWN,
    CLEARED, CLEARED_IN_A_GAME, HALF_SET_UP, READY;

    // Loops of ten and nine squares for two kings: no position comes again within 150 moves.
    private static final int[] FIRST_LOOP = {54, 55, 56, 57, 58, 67, 66, 65, 64, 63};
    private static final int[] SECOND_LOOP = {0, 1, 2, 3, 4, 12, 11, 10, 9};

    private String view;

    static List<Scene> all() {
        return List.of(values());
    }

    static List<Scene> games() {
        return Stream.of(values()).filter(s -> s.ordinal() < CLEARED.ordinal()).toList();
    }

    static List<Scene> setUps() {
        return Stream.of(values()).filter(s -> s.ordinal() >= CLEARED.ordinal()).toList();
    }

    static List<Scene> over() {
        return List.of(MATED, MATE_PLAYED, STALEMATED, DRAWN, CHECKER_TO_MOVE, CHECKED_TO_MOVE, FULL_AND_DRAWN);
    }

    static List<Scene> goingOn() {
        return List.of(NEW, PLAYED, TAKEN_BACK, BEGUN_AGAIN, STARTED, IN_CHECK);
    }

    /** Those in which no move was made since the game began. */
    static List<Scene> withoutMoves() {
        return List.of(NEW, TAKEN_BACK, BEGUN_AGAIN, STARTED, IN_CHECK, MATED, STALEMATED);
    }

    String view() {
        if (view == null) {
            view = View.of(this::make);
        }
        return view;
    }

    DroppedPieces make() {
        switch (this) {
            case PLAYED:
                return opening(new DroppedPieces());
            case TAKEN_BACK:
                return takenBack(opening(new DroppedPieces()));
            case BEGUN_AGAIN:
                return begunAgain(opening(new DroppedPieces()));
            case STARTED:
                return Setup.game("l2gk4/9/2p1+P4/1B7/9/3n4R/9/4G4/4K4 w P2SGbl3p");
            case IN_CHECK:
                return Setup.game("4k4/9/4R4/9/9/9/9/9/4K4 w gp");
            case FULL:
                return walk(150);
            case MATED:
                return Setup.game("k8/1G7/1P7/9/9/9/9/9/4K4 w -");
            case MATE_PLAYED:
                return played(Setup.game("4k4/9/4P4/9/9/9/9/9/4K4 b G"), Setup.drop(5, 13));
            case STALEMATED:
                return Setup.game("k8/8R/2N6/9/9/9/9/9/4K4 w -");
            case DRAWN:
                return rounds(3, new DroppedPieces(), Setup.move(70, 69), Setup.move(10, 11), Setup.move(69, 70),
                        Setup.move(11, 10));
            case CHECKER_TO_MOVE:
                return rounds(3, Setup.game("k8/9/9/9/9/9/1R7/9/8K b -"), Setup.move(55, 54), Setup.move(0, 1),
                        Setup.move(54, 55), Setup.move(1, 0));
            case CHECKED_TO_MOVE:
                return rounds(3, Setup.game("k8/9/9/9/9/9/R8/9/8K w -"), Setup.move(0, 1), Setup.move(54, 55),
                        Setup.move(1, 0), Setup.move(55, 54));
            case FULL_AND_DRAWN:
                return drawnAtTheEnd();
            case CLEARED:
                return cleared(new DroppedPieces());
            case CLEARED_IN_A_GAME:
                return cleared(opening(new DroppedPieces()));
            case HALF_SET_UP:
                return handsOf(Setup.squares("k8/9/9/1P7/1P7/9/9/4p3R/8k"));
            case READY:
                return handsOf(Setup.squares("4k4/9/2P6/9/9/9/9/8l/4K4"));
            default:
                return new DroppedPieces();
        }
    }

    static DroppedPieces played(DroppedPieces x, int... moves) {
        for (int move : moves) {
            x.play(move);
        }
        return x;
    }

    static DroppedPieces rounds(int n, DroppedPieces x, int... moves) {
        for (int k = 0; k < n; k++) {
            played(x, moves);
        }
        return x;
    }

    /** A move, a taking with promotion, a promoted piece taken, a drop. */
    static int[] openingMoves() {
        return new int[] {
            Setup.move(56, 47), Setup.move(24, 33), Setup.promote(64, 16), Setup.move(6, 16), Setup.drop(6, 40)};
    }

    private static DroppedPieces opening(DroppedPieces x) {
        return played(x, openingMoves());
    }

    private static DroppedPieces takenBack(DroppedPieces x) {
        while (x.made() > 0) {
            x.back();
        }
        return x;
    }

    private static DroppedPieces begunAgain(DroppedPieces x) {
        x.begin();
        return x;
    }

    static DroppedPieces cleared(DroppedPieces x) {
        x.clear();
        return x;
    }

    private static DroppedPieces handsOf(DroppedPieces x) {
        x.give(0, 1, 18);
        x.give(0, 7, 2);
        x.give(1, 5, 1);
        return x;
    }

    /** The move that comes behind so many moves when two kings walk round. */
    static int step(int made) {
        int[] loop = made % 2 == 0 ? FIRST_LOOP : SECOND_LOOP;
        int k = made / 2;
        return Setup.move(loop[k % loop.length], loop[(k + 1) % loop.length]);
    }

    /** Two kings that have walked so many moves. */
    static DroppedPieces walk(int moves) {
        DroppedPieces x = Setup.game("k8/9/9/9/9/9/K8/9/9 b -");
        for (int k = 0; k < moves; k++) {
            x.play(step(k));
        }
        return x;
    }

    /** Two kings walk 138 moves, and go to and fro until the position is there for the fourth time. */
    private static DroppedPieces drawnAtTheEnd() {
        DroppedPieces x = walk(138);
        int there = step(138);
        int otherThere = step(139);
        return rounds(3, x, there, otherThere, homeOf(there), homeOf(otherThere));
    }

    private static int homeOf(int move) {
        return Setup.move(move / 128, move % 128);
    }
}
