/** How many rows of moves there are, against numbers that shogi programs agree on. */
public final class PerftTest {
    public static void main(String[] args) {
        DroppedPieces x = new DroppedPieces();
        Check.same("count(0)", x.count(0), 1);
        Check.same("count(1)", x.count(1), 30);
        Check.same("count(2)", x.count(2), 900);
        Check.same("three moves", threeMoves(), 25470);
        Check.same("four moves", fourMoves(), 719731);
        DroppedPieces most = Setup.game("R8/2K1S1SSk/4B4/9/9/9/9/9/1L1L1L3 b RBGSNLP3g3n17p");
        Check.same("most moves: count(1)", most.count(1), 593);
        Check.same("most moves: count(2)", most.count(2), 105677);
        Check.end();
    }

    private static long threeMoves() {
        DroppedPieces x = new DroppedPieces();
        long sum = 0;
        for (int k = 0; k < 30; k++) {
            x.play(x.move(k));
            sum += x.count(2);
            x.back();
        }
        return sum;
    }

    private static long fourMoves() {
        long sum = 0;
        for (int k = 0; k < 30; k++) {
            DroppedPieces x = new DroppedPieces();
            x.play(x.move(k));
            int n = x.moves();
            for (int j = 0; j < n; j++) {
                x.play(x.move(j));
                sum += x.count(2);
                x.back();
            }
        }
        return sum;
    }
}
