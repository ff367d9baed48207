import java.util.NoSuchElementException;

/** Each promise of the document: ordinary inputs, the edges that it names, and wrong inputs. */
public final class PromisesTest {
    private static final int[] BACK_ROW = {2, 3, 4, 5, 8, 5, 4, 3, 2};
    private static final String KINGS = "4k4/9/9/9/9/9/9/9/4K4 b -";

    public static void main(String[] args) {
        newObject();
        begin();
        clear();
        put();
        give();
        start();
        startRefuses();
        at();
        hand();
        player();
        reaches();
        reachesByKind();
        inCheck();
        moves();
        promotions();
        drops();
        shields();
        knightChecks();
        move();
        isLegal();
        pawnMate();
        result();
        resultOfChecks();
        times();
        play();
        playLimits();
        back();
        made();
        count();
        mate();
        Check.end();
    }

    private static void isBeginning(String when, DroppedPieces x) {
        for (int s = 0; s < 81; s++) {
            Check.same(when + " at(" + s + ")", x.at(s), s < 40 ? -beginningKind(80 - s) : beginningKind(s));
        }
        for (int kind = 1; kind < 8; kind++) {
            Check.same(when + " hand", x.hand(0, kind) + x.hand(1, kind), 0);
        }
        Check.same(when + " player", x.player(), 0);
        Check.same(when + " made", x.made(), 0);
        Check.same(when + " times", x.times(), 1);
        Check.same(when + " result", x.result(), 0);
        Check.same(when + " moves", x.moves(), 30);
    }

    private static int beginningKind(int square) {
        if (square >= 72) {
            return BACK_ROW[square - 72];
        }
        return square == 64 ? 6 : square == 70 ? 7 : square >= 54 && square < 63 ? 1 : 0;
    }

    private static void newObject() {
        isBeginning("new", new DroppedPieces());
        Check.state("new: put", () -> new DroppedPieces().put(0, 0));
    }

    private static void begin() {
        DroppedPieces x = new DroppedPieces();
        x.play(Setup.move(60, 51));
        x.begin();
        isBeginning("begin in a game", x);
        x.clear();
        x.put(40, 5);
        x.give(1, 3, 2);
        x.begin();
        isBeginning("begin while setting up", x);
        Check.state("begin ends setting up", () -> x.give(0, 1, 1));
        Check.fails("begin forgets moves", NoSuchElementException.class, x::back);
    }

    private static void clear() {
        DroppedPieces x = new DroppedPieces();
        x.play(Setup.move(60, 51));
        x.clear();
        isEmpty("clear in a game", x);
        x.put(40, -7);
        x.give(1, 7, 3);
        x.clear();
        isEmpty("clear while setting up", x);
        Check.state("clear: moves", x::moves);
        Check.state("clear: move", () -> x.move(0));
        Check.state("clear: isLegal", () -> x.isLegal(0));
        Check.state("clear: result", x::result);
        Check.state("clear: times", x::times);
        Check.state("clear: play", () -> x.play(0));
        Check.state("clear: back", x::back);
        Check.state("clear: count", () -> x.count(9));
        Check.state("clear: mate", x::mate);
    }

    private static void isEmpty(String when, DroppedPieces x) {
        for (int s = 0; s < 81; s++) {
            Check.same(when + " at(" + s + ")", x.at(s), 0);
        }
        for (int kind = 1; kind < 8; kind++) {
            Check.same(when + " hand", x.hand(0, kind) + x.hand(1, kind), 0);
        }
        Check.same(when + " player", x.player(), -1);
        Check.same(when + " made", x.made(), 0);
    }

    private static void put() {
        DroppedPieces x = new DroppedPieces();
        Check.state("put in a game", () -> x.put(0, 1));
        Check.state("put in a game, nothing right", () -> x.put(-1, 99));
        Check.same("put in a game changes nothing", x.at(0), -2);
        x.clear();
        for (int value = -17; value <= 17; value++) {
            int v = value;
            boolean none = Math.abs(v) > 15 || Math.abs(v) == 13;
            if (none) {
                Check.argument("put(5, " + v + ")", () -> x.put(5, v));
            } else {
                int before = x.at(5);
                Check.same("put(5, " + v + ")", x.put(5, v), before);
                Check.same("at(5) behind put", x.at(5), v);
            }
        }
        Check.argument("put lowest value", () -> x.put(5, Integer.MIN_VALUE));
        Check.argument("put highest value", () -> x.put(5, Integer.MAX_VALUE));
        Check.same("wrong put changes nothing", x.at(5), 15);
        Check.index("put(-1, 1)", () -> x.put(-1, 1));
        Check.index("put(81, 1)", () -> x.put(81, 1));
        Check.index("put(81, 13): the square comes first", () -> x.put(81, 13));
        Check.same("put(80, -8)", x.put(80, -8), 0);
        Check.same("put(80, 8)", x.put(80, 8), -8);
        Check.same("a second king may be put", x.put(0, 8), 0);
        Check.same("put(0, 0)", x.put(0, 0), 8);
    }

    private static void give() {
        DroppedPieces x = new DroppedPieces();
        Check.state("give in a game", () -> x.give(0, 1, 1));
        Check.state("give in a game, nothing right", () -> x.give(7, 9, -1));
        x.clear();
        x.give(0, 1, 18);
        x.give(0, 1, 4);
        x.give(1, 7, 18);
        x.give(1, 1, 0);
        Check.same("give in place of", x.hand(0, 1), 4);
        Check.same("give eighteen", x.hand(1, 7), 18);
        Check.argument("give(2, 1, 1)", () -> x.give(2, 1, 1));
        Check.argument("give(-1, 1, 1)", () -> x.give(-1, 1, 1));
        Check.argument("give(0, 0, 1)", () -> x.give(0, 0, 1));
        Check.argument("give(0, 8, 1)", () -> x.give(0, 8, 1));
        Check.argument("give(0, 9, 1)", () -> x.give(0, 9, 1));
        Check.argument("give(0, 1, -1)", () -> x.give(0, 1, -1));
        Check.argument("give(0, 1, 19)", () -> x.give(0, 1, 19));
        Check.same("wrong give changes nothing", x.hand(0, 1), 4);
        x.give(0, 1, 0);
        Check.same("give none", x.hand(0, 1), 0);
    }

    private static void start() {
        DroppedPieces x = new DroppedPieces();
        Check.state("start in a game", () -> x.start(0));
        Check.state("start in a game, no such player", () -> x.start(5));
        x.clear();
        x.put(4, -8);
        x.put(76, 8);
        x.give(1, 2, 3);
        Check.argument("start(2)", () -> x.start(2));
        Check.argument("start(-1)", () -> x.start(-1));
        Check.same("wrong start: still being set up", x.player(), -1);
        Check.same("wrong start: put goes on", x.put(40, 5), 0);
        x.start(1);
        Check.same("start: player", x.player(), 1);
        Check.same("start: made", x.made(), 0);
        Check.same("start: times", x.times(), 1);
        Check.same("start: square", x.at(40), 5);
        Check.same("start: hand", x.hand(1, 2), 3);
        Check.state("start ends setting up", () -> x.put(0, 0));
        Check.state("start twice", () -> x.start(0));
    }

    private static void startRefuses() {
        refuses("no kings", "9/9/9/9/9/9/9/9/9", 0);
        refuses("one king", "4k4/9/9/9/9/9/9/9/9", 0);
        refuses("other king", "9/9/9/9/9/9/9/9/4K4", 1);
        refuses("two kings of one", "4k4/9/9/9/9/9/9/9/K3K4", 0);
        refuses("two kings of the other", "4k3k/9/9/9/9/9/9/9/4K4", 0);
        refuses("kings side by side", "9/9/9/4kK3/9/9/9/9/9", 0);
        refuses("pawn in its last row", "4k3P/9/9/9/9/9/9/9/4K4", 0);
        refuses("other's pawn in its last row", "4k4/9/9/9/9/9/9/9/p3K4", 0);
        refuses("lance in its last row", "L3k4/9/9/9/9/9/9/9/4K4", 0);
        refuses("other's lance in its last row", "4k4/9/9/9/9/9/9/9/4K3l", 0);
        refuses("knight in its last row", "N3k4/9/9/9/9/9/9/9/4K4", 0);
        refuses("knight in its last row but one", "4k4/N8/9/9/9/9/9/9/4K4", 0);
        refuses("other's knight in its last row but one", "4k4/9/9/9/9/9/9/n8/4K4", 1);
        refuses("two pawns in a column", "4k4/P8/9/9/P8/9/9/9/4K4", 0);
        refuses("two pawns of the other", "4k4/8p/9/9/8p/9/9/9/4K4", 0);
        refuses("the other one in check", "4k4/9/4R4/9/9/9/9/9/4K4", 0);
        refuses("player 0 in check, player 1 to move", "4k4/9/9/9/9/9/3n5/9/4K4", 1);
        accepts("the player in check", "4k4/9/4R4/9/9/9/9/9/4K4", 1);
        accepts("a lance one row before", "4k4/L8/9/9/9/9/9/9/4K4", 0);
        accepts("a knight two rows before", "4k4/9/N8/9/9/9/9/9/4K4", 0);
        accepts("own pawns at home's edge", "p3k4/9/9/9/9/9/9/9/P3K4", 0);
        accepts("a pawn beside a promoted one and the other's", "4k4/p8/+P8/P8/9/9/9/9/4K4", 0);
        accepts("promoted ones in the last row", "+P+L+N1k4/9/9/9/9/9/9/9/4K1+n+l+p", 0);
    }

    private static void refuses(String what, String board, int player) {
        DroppedPieces x = Setup.squares(board);
        Check.argument("start: " + what, () -> x.start(player));
        Check.same("refused start: player", x.player(), -1);
    }

    private static void accepts(String what, String board, int player) {
        DroppedPieces x = Setup.squares(board);
        x.start(player);
        Check.same("start: " + what, x.player(), player);
    }

    private static void at() {
        DroppedPieces x = new DroppedPieces();
        Check.same("at(0)", x.at(0), -2);
        Check.same("at(80)", x.at(80), 2);
        Check.same("at(10)", x.at(10), -7);
        Check.same("at(16)", x.at(16), -6);
        Check.same("at(40)", x.at(40), 0);
        Check.index("at(-1)", () -> x.at(-1));
        Check.index("at(81)", () -> x.at(81));
        Check.index("at lowest", () -> x.at(Integer.MIN_VALUE));
        x.clear();
        x.put(12, -14);
        Check.same("at while setting up", x.at(12), -14);
        Check.index("at(81) while setting up", () -> x.at(81));
    }

    private static void hand() {
        DroppedPieces x = Setup.game("4k4/9/9/9/9/9/9/9/4K4 b 3PRb2g");
        Check.same("hand(0, 1)", x.hand(0, 1), 3);
        Check.same("hand(0, 7)", x.hand(0, 7), 1);
        Check.same("hand(1, 6)", x.hand(1, 6), 1);
        Check.same("hand(1, 5)", x.hand(1, 5), 2);
        Check.same("hand(1, 1)", x.hand(1, 1), 0);
        int[][] none = {{-1, 1}, {2, 1}, {0, 0}, {0, 8}, {0, -7}, {0, 9}, {0, 14}, {1, -7}, {1, 8}, {9, 9}};
        for (int[] pair : none) {
            Check.same("hand(" + pair[0] + ", " + pair[1] + ")", x.hand(pair[0], pair[1]), 0);
        }
    }

    private static void player() {
        DroppedPieces x = new DroppedPieces();
        Check.same("player at the beginning", x.player(), 0);
        x.play(Setup.move(60, 51));
        Check.same("player behind a move", x.player(), 1);
        x.back();
        Check.same("player behind back", x.player(), 0);
        x.clear();
        Check.same("player while setting up", x.player(), -1);
    }

    private static void reaches() {
        DroppedPieces x = new DroppedPieces();
        Check.yes("reaches a free square", x.reaches(0, 45));
        Check.yes("reaches a square with a piece of its own", x.reaches(0, 63));
        Check.no("reaches nobody's square", x.reaches(0, 80));
        Check.yes("reaches(1, 27)", x.reaches(1, 27));
        Check.no("reaches(1, 45)", x.reaches(1, 45));
        int[][] none = {{-1, 45}, {2, 45}, {0, -1}, {0, 81}, {1, 81}};
        for (int[] pair : none) {
            Check.no("reaches(" + pair[0] + ", " + pair[1] + ")", x.reaches(pair[0], pair[1]));
        }
        DroppedPieces y = Setup.squares("9/9/9/9/R2p2P2/9/9/9/9");
        Check.yes("a run's end on the other's piece", y.reaches(0, 39));
        Check.no("a run ends at a piece", y.reaches(0, 40));
        Check.yes("reaches ahead of the other's pawn", y.reaches(1, 48));
        Check.no("a piece doesn't reach its own square", y.reaches(1, 39));
        DroppedPieces pinned = Setup.game("4k4/4r4/9/9/9/9/4G4/4K4/9 b -");
        Check.yes("a piece that shields the king reaches all the same", pinned.reaches(0, 57));
    }

    /** For each kind the squares round the middle, as player 0 sees them: 1 one step, 2 running. */
    private static void reachesByKind() {
        String[] eight = {
            "010000000", "020000000", "000000000", "111000101", "111101010", "202000202", "020202020", "111101111",
            "111101010", "111101010", "111101010", "111101010", "000000000", "212101212", "121202121"};
        for (int kind = 1; kind <= 15; kind++) {
            if (kind != 13) {
                reachesFrom(kind, eight[kind - 1], kind);
                reachesFrom(kind, new StringBuilder(eight[kind - 1]).reverse().toString(), -kind);
            }
        }
    }

    private static void reachesFrom(int kind, String eight, int value) {
        DroppedPieces x = new DroppedPieces();
        x.clear();
        x.put(40, value);
        int player = value > 0 ? 0 : 1;
        for (int s = 0; s < 81; s++) {
            int dr = s / 9 - 4;
            int dc = s % 9 - 4;
            int far = Math.max(Math.abs(dr), Math.abs(dc));
            boolean due = false;
            if (kind == 3) {
                due = dr == (player == 0 ? -2 : 2) && Math.abs(dc) == 1;
            } else if (far > 0 && (dr == 0 || dc == 0 || Math.abs(dr) == Math.abs(dc))) {
                char c = eight.charAt(3 * (dr / far + 1) + dc / far + 1);
                due = c == '2' || c == '1' && far == 1;
            }
            Check.same("value " + value + " reaches " + s, x.reaches(player, s) ? 1 : 0, due ? 1 : 0);
            Check.no("the other one reaches " + s, x.reaches(1 - player, s));
        }
    }

    private static void inCheck() {
        DroppedPieces x = Setup.game("4k4/9/4R4/9/9/9/9/9/4K4 w -");
        Check.yes("inCheck(1)", x.inCheck(1));
        Check.no("inCheck(0)", x.inCheck(0));
        Check.no("inCheck(2)", x.inCheck(2));
        Check.no("inCheck(-1)", x.inCheck(-1));
        x.play(Setup.move(4, 3));
        Check.no("inCheck behind a move", x.inCheck(1));
        x.play(Setup.move(22, 21));
        Check.yes("inCheck behind a check", x.inCheck(1));
        Check.no("shielded", Setup.game("4k4/4p4/4R4/9/9/9/9/9/4K4 w -").inCheck(1));
        Check.yes("by a knight over pieces", Setup.game("4k4/3ppp3/3N5/9/9/9/9/9/4K4 w -").inCheck(1));
        Check.no("by no knight backwards", Setup.game("9/9/9/3N5/9/4k4/9/9/K8 w -").inCheck(1));
        Check.yes("player 0 by player 1's knight", Setup.game("4k4/9/9/9/9/9/5n3/9/4K4 b -").inCheck(0));
        DroppedPieces y = Setup.squares("4k4/9/4R4/9/9/9/9/9/4K4");
        Check.no("inCheck while setting up", y.inCheck(1));
    }

    private static void moves() {
        Check.same("moves at the beginning", new DroppedPieces().moves(), 30);
        Check.same("kings alone", Setup.game(KINGS).moves(), 5);
        Check.same("none", Setup.game("k8/1G7/1P7/9/9/9/9/9/4K4 w -").moves(), 0);
        Check.same("one by the king, the others drops", Setup.game("k8/9/1R7/9/9/9/9/9/4K4 w p").moves(), 1 + 70);
        Check.same("moves when over", drawn(new DroppedPieces()).moves(), 30);
        DroppedPieces x = new DroppedPieces();
        x.clear();
        Check.state("moves while setting up", x::moves);
    }

    private static void promotions() {
        String kinds = "PLNSGBR";
        for (int kind = 1; kind <= 7; kind++) {
            DroppedPieces into = Setup.game("k8/9/9/4" + kinds.charAt(kind - 1) + "4/9/9/9/9/K8 b -");
            int to = kind == 3 ? 12 : kind == 6 ? 21 : 22;
            Check.same("kind " + kind + " promotes", into.isLegal(Setup.promote(31, to)) ? 1 : 0, kind == 5 ? 0 : 1);
            Check.same("kind " + kind + " stays as it is", into.isLegal(Setup.move(31, to)) ? 1 : 0,
                    kind == 3 ? 0 : 1);
        }
        DroppedPieces out = Setup.game("k8/9/4S4/9/9/9/9/9/K8 b -");
        Check.yes("promotes on leaving the zone", out.isLegal(Setup.promote(22, 30)));
        Check.yes("or does not", out.isLegal(Setup.move(22, 30)));
        DroppedPieces deep = Setup.game("k8/4P4/7N1/6L2/9/9/9/9/K8 b -");
        Check.no("a pawn must promote in the last row", deep.isLegal(Setup.move(13, 4)));
        Check.yes("a pawn promotes in the last row", deep.isLegal(Setup.promote(13, 4)));
        Check.no("a knight must promote in the last row", deep.isLegal(Setup.move(25, 8)));
        Check.yes("a knight promotes in the last row", deep.isLegal(Setup.promote(25, 8)));
        Check.no("a lance must promote in the last row", deep.isLegal(Setup.move(33, 6)));
        Check.yes("a lance need not in the last row but one", deep.isLegal(Setup.move(33, 15)));
        DroppedPieces low = Setup.game("k8/9/9/9/9/4s4/4+r4/9/K8 w -");
        Check.yes("player 1's zone is below", low.isLegal(Setup.promote(49, 57)));
        Check.no("a promoted piece does not promote", low.isLegal(Setup.promote(58, 67)));
        Check.no("no king promotes", Setup.game("9/1K7/9/9/9/9/9/9/8k b -").isLegal(Setup.promote(10, 0)));
        Check.no("not outside the zone", Setup.game("k8/9/9/9/4S4/9/9/9/K8 b -").isLegal(Setup.promote(40, 31)));
    }

    private static void drops() {
        DroppedPieces x = Setup.game("8k/9/9/4P4/9/2+P6/9/9/K8 b PLNSGBR");
        Check.no("no second pawn in a column", x.isLegal(Setup.drop(1, 67)));
        Check.yes("a promoted pawn doesn't count", x.isLegal(Setup.drop(1, 65)));
        Check.no("a pawn not in the last row", x.isLegal(Setup.drop(1, 3)));
        Check.yes("a pawn in the last row but one", x.isLegal(Setup.drop(1, 12)));
        Check.no("a lance not in the last row", x.isLegal(Setup.drop(2, 3)));
        Check.yes("a lance in the last row but one", x.isLegal(Setup.drop(2, 13)));
        Check.no("a knight not in the last row but one", x.isLegal(Setup.drop(3, 12)));
        Check.yes("a knight in the third row", x.isLegal(Setup.drop(3, 21)));
        for (int kind = 4; kind <= 7; kind++) {
            Check.yes("kind " + kind + " in the last row", x.isLegal(Setup.drop(kind, 3)));
            Check.no("not on a piece", x.isLegal(Setup.drop(kind, 31)));
            Check.no("not promoting", x.isLegal(Setup.drop(kind, 12) + 16384));
        }
        Check.no("no king is dropped", x.isLegal(Setup.drop(8, 40)));
        Check.no("nothing is dropped from 81", x.isLegal(Setup.move(81, 40)));
        DroppedPieces y = Setup.game("8k/9/4P4/9/9/9/9/9/K8 w p3n");
        Check.no("player 1's pawn not in row 8", y.isLegal(Setup.drop(1, 76)));
        Check.yes("player 1's pawn in the column of the other's", y.isLegal(Setup.drop(1, 67)));
        Check.no("player 1's knight not in row 7", y.isLegal(Setup.drop(3, 67)));
        Check.yes("player 1's knight in row 6", y.isLegal(Setup.drop(3, 58)));
        Check.no("none of a kind that is not in the hand", y.isLegal(Setup.drop(2, 40)));
        Check.same("drops are counted", y.moves(), 3 + (78 - 8) + (78 - 17));
    }

    private static void shields() {
        DroppedPieces x = Setup.game("4r3k/9/9/9/9/4R4/4G4/4K4/9 b -");
        Check.yes("one of two shields is free", x.isLegal(Setup.move(49, 50)));
        DroppedPieces y = Setup.game("4r3k/9/9/9/9/9/4G4/4K4/9 b P");
        Check.yes("a shield moves along the line", y.isLegal(Setup.move(58, 49)));
        Check.no("a shield does not leave the line", y.isLegal(Setup.move(58, 57)));
        Check.no("the king does not step into check",
                Setup.game("3r4k/9/9/9/9/9/9/4K4/9 b -").isLegal(Setup.move(67, 66)));
        DroppedPieces away = Setup.game("4r3k/9/9/9/9/9/9/4K4/9 b PG");
        Check.no("the king does not run along the line", away.isLegal(Setup.move(67, 76)));
        Check.yes("a drop between ends the check", away.isLegal(Setup.drop(5, 40)));
        Check.no("a drop elsewhere does not", away.isLegal(Setup.drop(5, 41)));
        DroppedPieces both = Setup.game("4r3k/9/9/9/9/9/5n3/5G3/4K4 b G");
        Check.no("two checks: no drop", both.isLegal(Setup.drop(5, 40)));
        Check.no("two checks: no taking", both.isLegal(Setup.move(68, 59)));
        Check.yes("two checks: the king moves", both.isLegal(Setup.move(76, 77)));
        Check.no("a piece that is guarded is not taken by the king",
                Setup.game("8k/9/9/9/9/4l4/4g4/4K4/9 b -").isLegal(Setup.move(67, 58)));
        Check.yes("one that is not guarded is",
                Setup.game("8k/9/9/9/9/9/4g4/4K4/9 b -").isLegal(Setup.move(67, 58)));
    }

    private static void knightChecks() {
        DroppedPieces x = Setup.game("n7k/9/RK7/9/9/9/9/9/9 b G");
        Check.yes("a knight in the corner reaches", x.reaches(1, 19));
        Check.yes("a knight in the corner gives check", x.inCheck(0));
        Check.yes("it may be taken", x.isLegal(Setup.move(18, 0)));
        Check.no("nothing stands between", x.isLegal(Setup.drop(5, 10)));
        Check.no("no other move of the rook", x.isLegal(Setup.move(18, 9)));
        Check.yes("the king moves", x.isLegal(Setup.move(19, 10)));
        for (int knight : new int[] {48, 50}) {
            DroppedPieces y = Setup.squares("K8/9/9/4k4/9/9/9/9/9");
            y.put(knight, 3);
            y.put(knight + 9, -2);
            y.put(knight - 9, -2);
            y.start(1);
            Check.yes("player 0's knight gives check", y.inCheck(1));
            Check.yes("a lance takes it", y.isLegal(Setup.move(knight - 9, knight)));
            Check.no("a lance behind it can't", y.isLegal(Setup.move(knight + 9, knight + 18)));
        }
    }

    private static void move() {
        DroppedPieces x = new DroppedPieces();
        Check.same("move(0)", x.move(0), Setup.move(54, 45));
        Check.same("move(9)", x.move(9), Setup.move(70, 65));
        Check.same("move(29)", x.move(29), Setup.move(80, 71));
        Check.index("move(30)", () -> x.move(30));
        Check.index("move(-1)", () -> x.move(-1));
        Check.index("move lowest", () -> x.move(Integer.MIN_VALUE));
        Check.index("move highest", () -> x.move(Integer.MAX_VALUE));
        DroppedPieces y = Setup.game("8k/9/9/B8/9/9/9/9/K8 b PN");
        int[] due = {
            Setup.move(27, 3), Setup.promote(27, 3), Setup.move(27, 11), Setup.promote(27, 11),
            Setup.move(27, 19), Setup.promote(27, 19), Setup.move(27, 37), Setup.move(27, 47)};
        for (int k = 0; k < due.length; k++) {
            Check.same("in order: move(" + k + ")", y.move(k), due[k]);
        }
        Check.same("king's first", y.move(11), Setup.move(72, 63));
        Check.same("king's last", y.move(13), Setup.move(72, 73));
        Check.same("first pawn", y.move(14), Setup.drop(1, 9));
        Check.same("last of all", y.move(y.moves() - 1), Setup.drop(3, 80));
        y.clear();
        Check.state("move while setting up", () -> y.move(-1));
    }

    private static void isLegal() {
        DroppedPieces x = new DroppedPieces();
        for (int k = 0; k < 30; k++) {
            Check.yes("isLegal of move " + k, x.isLegal(x.move(k)));
        }
        int[] none = {
            -1, 0, Integer.MAX_VALUE, Integer.MIN_VALUE, Setup.move(60, 42), Setup.promote(60, 51),
            Setup.move(18, 27), Setup.move(60, 51) + 32768, Setup.move(81, 40), Setup.drop(1, 40),
            Setup.move(70, 60), Setup.move(60, 51) - 65536, 127 + 128 * 127};
        for (int move : none) {
            Check.no("isLegal(" + move + ")", x.isLegal(move));
        }
        Check.yes("legal moves stay so when the game is over",
                drawn(new DroppedPieces()).isLegal(Setup.move(60, 51)));
        x.clear();
        Check.state("isLegal while setting up", () -> x.isLegal(-1));
    }

    private static void pawnMate() {
        DroppedPieces x = Setup.game("k8/9/1S7/9/9/9/9/9/4K4 b P");
        Check.yes("a dropped pawn gives check: the king gets away", x.isLegal(Setup.drop(1, 9)));
        DroppedPieces mated = Setup.game("kl7/2G6/1S7/9/9/9/9/9/4K4 b P");
        Check.no("mate by a dropped pawn", mated.isLegal(Setup.drop(1, 9)));
        Check.argument("mate by a dropped pawn is not played", () -> mated.play(Setup.drop(1, 9)));
        Check.same("nor found", mated.mate(), -1);
        DroppedPieces taken = Setup.game("kl7/2G6/1S6r/r8/9/9/9/9/4K4 b P");
        Check.yes("not mate when the pawn can be taken", taken.isLegal(Setup.drop(1, 9)));
        DroppedPieces bound = Setup.game("kg6R/9/1S7/9/9/9/9/9/4K4 b P");
        Check.no("mate when the taker shields the king", bound.isLegal(Setup.drop(1, 9)));
        DroppedPieces other = Setup.game("4k4/9/9/9/9/9/7s1/6g2/7LK w p");
        Check.no("mate by player 1's pawn", other.isLegal(Setup.drop(1, 71)));
        DroppedPieces moved = Setup.game("kl7/2G6/PS7/9/9/9/9/9/4K4 b -");
        Check.yes("mate by a pawn that moves", moved.isLegal(Setup.move(18, 9)));
        Check.same("is found", moved.mate(), Setup.move(18, 9));
        DroppedPieces lance = Setup.game("kl7/2G6/1S7/9/9/9/9/9/4K4 b L");
        Check.yes("mate by a dropped lance", lance.isLegal(Setup.drop(2, 9)));
        DroppedPieces stale = Setup.game("k8/8R/2N6/9/9/9/9/9/4K4 b P");
        Check.same("a dropped pawn that leaves no legal move, but is no check", stale.play(Setup.drop(1, 40)), 0);
        Check.same("no legal move behind it", stale.result(), 1);
    }

    private static DroppedPieces drawn(DroppedPieces x) {
        for (int k = 0; k < 3; k++) {
            rounds(x, Setup.move(70, 69), Setup.move(10, 11), Setup.move(69, 70), Setup.move(11, 10));
        }
        return x;
    }

    private static void rounds(DroppedPieces x, int... moves) {
        for (int move : moves) {
            x.play(move);
        }
    }

    private static void result() {
        DroppedPieces x = new DroppedPieces();
        Check.same("result at the beginning", x.result(), 0);
        drawn(x);
        Check.same("the fourth time", x.result(), 2);
        x.back();
        Check.same("taken back", x.result(), 0);
        x.play(Setup.move(11, 10));
        Check.same("played again", x.result(), 2);
        x.begin();
        Check.same("begun again", x.result(), 0);
        Check.same("mate", Setup.game("k8/1G7/1P7/9/9/9/9/9/4K4 w -").result(), 1);
        Check.same("no move, no check", Setup.game("k8/8R/2N6/9/9/9/9/9/4K4 w -").result(), 1);
        DroppedPieces y = Setup.game("4k4/9/4P4/9/9/9/9/9/4K4 b G");
        y.play(Setup.drop(5, 13));
        Check.same("mate played", y.result(), 1);
        y.clear();
        Check.state("result while setting up", y::result);
    }

    private static void resultOfChecks() {
        DroppedPieces x = Setup.game("k8/9/9/9/9/9/1R7/9/8K b -");
        for (int k = 0; k < 3; k++) {
            Check.same("goes on before round " + k, x.result(), 0);
            rounds(x, Setup.move(55, 54), Setup.move(0, 1), Setup.move(54, 55), Setup.move(1, 0));
        }
        Check.same("the player to move checked always", x.result(), 3);
        x.back();
        Check.same("three times only", x.result(), 0);
        DroppedPieces y = Setup.game("k8/9/9/9/9/9/6R2/9/8K b -");
        y.play(Setup.move(60, 54));
        for (int k = 0; k < 3; k++) {
            rounds(y, Setup.move(0, 1), Setup.move(54, 55), Setup.move(1, 0), Setup.move(55, 54));
        }
        Check.same("the other player checked always", y.result(), 4);
        DroppedPieces z = Setup.game("k8/9/9/9/9/9/R8/9/8K w -");
        rounds(z, Setup.move(0, 1), Setup.move(54, 56), Setup.move(1, 0), Setup.move(56, 54));
        for (int k = 0; k < 2; k++) {
            rounds(z, Setup.move(0, 1), Setup.move(54, 55), Setup.move(1, 0), Setup.move(55, 54));
        }
        Check.same("once no check, in the first round", z.result(), 2);
        DroppedPieces last = Setup.game("k8/9/9/9/9/9/1R7/9/8K b -");
        for (int k = 0; k < 2; k++) {
            rounds(last, Setup.move(55, 54), Setup.move(0, 1), Setup.move(54, 55), Setup.move(1, 0));
        }
        rounds(last, Setup.move(55, 56), Setup.move(0, 9), Setup.move(56, 55), Setup.move(9, 0));
        Check.same("no check in the last round", last.result(), 2);
        resultOfPlayerOne();
    }

    private static void resultOfPlayerOne() {
        DroppedPieces x = Setup.game("8k/9/3r5/9/9/9/9/9/K8 w -");
        rounds(x, Setup.move(21, 20), Setup.move(72, 73), Setup.move(20, 19));
        for (int k = 0; k < 3; k++) {
            rounds(x, Setup.move(73, 72), Setup.move(19, 18), Setup.move(72, 73), Setup.move(18, 19));
        }
        Check.same("player 1 checked since the first time, not before", x.result(), 4);
    }

    private static void times() {
        DroppedPieces x = new DroppedPieces();
        Check.same("times at the beginning", x.times(), 1);
        for (int k = 2; k <= 4; k++) {
            rounds(x, Setup.move(70, 69), Setup.move(10, 11), Setup.move(69, 70));
            Check.same("times before it comes back", x.times(), k - 1);
            x.play(Setup.move(11, 10));
            Check.same("times", x.times(), k);
        }
        x.back();
        Check.same("times behind back", x.times(), 3);
        DroppedPieces mover = Setup.game("k8/9/9/9/9/9/9/9/7K1 b -");
        rounds(mover, Setup.move(79, 80), Setup.move(0, 9), Setup.move(80, 70), Setup.move(9, 0),
                Setup.move(70, 79));
        Check.same("same squares, the other one to move", mover.times(), 1);
        timesWithHands();
        x.clear();
        Check.state("times while setting up", x::times);
    }

    /** The squares come again, but a pawn that stood there is in the other player's hand now. */
    private static void timesWithHands() {
        DroppedPieces x = Setup.game("k8/9/9/9/4p4/4G4/9/9/8K b 2p");
        rounds(x, Setup.move(49, 40), Setup.move(0, 1), Setup.move(40, 49), Setup.drop(1, 40));
        rounds(x, Setup.move(80, 79), Setup.move(1, 10), Setup.move(79, 80), Setup.move(10, 0));
        Check.same("the squares of before", 1000 * x.at(49) + 100 * x.at(0) + 10 * x.at(80) + x.at(40), 4279);
        Check.same("other hands", 10 * x.hand(0, 1) + x.hand(1, 1), 11);
        Check.same("hands count", x.times(), 1);
    }

    private static void play() {
        DroppedPieces x = new DroppedPieces();
        Check.same("play a pawn", x.play(Setup.move(56, 47)), 0);
        Check.same("square left", x.at(56), 0);
        Check.same("square taken up", x.at(47), 1);
        x.play(Setup.move(24, 33));
        Check.same("play a bishop", x.play(Setup.promote(64, 16)), 6);
        Check.same("promoted", x.at(16), 14);
        Check.same("in the hand", x.hand(0, 6), 1);
        Check.same("a promoted one taken", x.play(Setup.move(6, 16)), 14);
        Check.same("not promoted any more", x.hand(1, 6), 1);
        Check.same("drop", x.play(Setup.drop(6, 40)), 0);
        Check.same("dropped", x.at(40), 6);
        Check.same("out of the hand", x.hand(0, 6), 0);
        Check.same("made", x.made(), 5);
        Check.argument("play of the other player's piece", () -> x.play(Setup.move(57, 48)));
        Check.argument("play of no move", () -> x.play(-1));
        Check.argument("play of none in the hand", () -> x.play(Setup.drop(7, 41)));
        Check.same("wrong play changes nothing", x.made() + 10 * x.player(), 15);
        for (int kind = 1; kind <= 15; kind++) {
            if (kind != 8 && kind != 13) {
                takes(kind);
            }
        }
        x.clear();
        Check.state("play while setting up", () -> x.play(0));
    }

    private static void takes(int kind) {
        DroppedPieces x = Setup.squares("8k/9/9/9/9/4R4/9/9/8K");
        x.put(40, -kind);
        x.give(0, 1, 18);
        x.start(0);
        Check.same("takes kind " + kind, x.play(Setup.move(49, 40)), kind);
        int inHand = kind > 8 ? kind - 8 : kind;
        Check.same("kind " + kind + " comes into the hand", x.hand(0, inHand), inHand == 1 ? 19 : 1);
        x.back();
        Check.same("kind " + kind + " is back", x.at(40), -kind);
        Check.same("and out of the hand", x.hand(0, inHand), inHand == 1 ? 18 : 0);
    }

    private static void playLimits() {
        DroppedPieces over = drawn(new DroppedPieces());
        Check.state("play when drawn", () -> over.play(Setup.move(60, 51)));
        Check.state("play of no move when drawn", () -> over.play(-1));
        DroppedPieces mated = Setup.game("k8/1G7/1P7/9/9/9/9/9/4K4 w -");
        Check.state("play when mated", () -> mated.play(Setup.move(0, 1)));
        // Loops of ten and nine squares: no position comes again within 150 moves.
        int[] first = {54, 55, 56, 57, 58, 67, 66, 65, 64, 63};
        int[] second = {0, 1, 2, 3, 4, 12, 11, 10, 9};
        DroppedPieces x = Setup.game("k8/9/9/9/9/9/K8/9/9 b -");
        for (int k = 0; k < 75; k++) {
            x.play(Setup.move(first[k % 10], first[(k + 1) % 10]));
            x.play(Setup.move(second[k % 9], second[(k + 1) % 9]));
        }
        Check.same("150 moves", x.made(), 150);
        Check.same("150 moves: the game goes on", x.result(), 0);
        Check.yes("150 moves: there are legal moves", x.moves() > 0);
        Check.yes("150 moves: they are counted on", x.count(2) > x.count(1));
        int next = x.move(0);
        Check.state("play behind 150 moves", () -> x.play(next));
        Check.state("play of no move behind 150 moves", () -> x.play(-1));
        int latest = x.back();
        Check.same("149 moves", x.made(), 149);
        Check.same("the 150th again", x.play(latest), 0);
        for (int k = 150; k > 0; k--) {
            x.back();
        }
        Check.same("all taken back", 100 * x.at(54) + x.at(0), 792);
        Check.fails("none is left", NoSuchElementException.class, x::back);
    }

    private static void back() {
        DroppedPieces x = new DroppedPieces();
        Check.fails("back at the beginning", NoSuchElementException.class, x::back);
        int[] moves = {
            Setup.move(56, 47), Setup.move(24, 33), Setup.promote(64, 16), Setup.move(6, 16), Setup.drop(6, 40)};
        rounds(x, moves);
        for (int k = moves.length - 1; k >= 0; k--) {
            Check.same("back", x.back(), moves[k]);
            Check.same("made behind back", x.made(), k);
            Check.same("player behind back", x.player(), k % 2);
        }
        isBeginning("all taken back", x);
        Check.fails("back once more", NoSuchElementException.class, x::back);
        DroppedPieces y = Setup.game(KINGS);
        rounds(y, Setup.move(76, 67), Setup.move(4, 13));
        y.back();
        y.back();
        Check.same("kings are back", 100 * y.at(76) + y.at(4), 792);
        Check.same("and move from there", y.moves(), 5);
        DroppedPieces mated = Setup.game("4k4/9/4P4/9/9/9/9/9/4K4 b G");
        mated.play(Setup.drop(5, 13));
        Check.same("back when over", mated.back(), Setup.drop(5, 13));
        Check.same("gold is in the hand again", mated.hand(0, 5), 1);
        mated.clear();
        Check.state("back while setting up", mated::back);
    }

    private static void made() {
        DroppedPieces x = new DroppedPieces();
        Check.same("made at the beginning", x.made(), 0);
        x.play(Setup.move(60, 51));
        x.play(Setup.move(20, 29));
        Check.same("made two", x.made(), 2);
        x.back();
        Check.same("made behind back", x.made(), 1);
        x.clear();
        Check.same("made while setting up", x.made(), 0);
        x.put(4, -8);
        x.put(76, 8);
        x.start(1);
        Check.same("made behind start", x.made(), 0);
    }

    private static void count() {
        DroppedPieces x = new DroppedPieces();
        Check.same("count(0)", x.count(0), 1);
        Check.same("count(1)", x.count(1), 30);
        Check.same("count(2)", x.count(2), 900);
        Check.argument("count(3)", () -> x.count(3));
        Check.argument("count(-1)", () -> x.count(-1));
        Check.same("count changes nothing", x.made() + x.player(), 0);
        isBeginning("behind count", x);
        DroppedPieces over = drawn(new DroppedPieces());
        Check.same("count(2) whatever the result", over.count(2), 900);
        DroppedPieces mated = Setup.game("k8/1G7/1P7/9/9/9/9/9/4K4 w -");
        Check.same("count(0) when mated", mated.count(0), 1);
        Check.same("count(1) when mated", mated.count(1), 0);
        Check.same("count(2) when mated", mated.count(2), 0);
        Check.same("kings alone", Setup.game(KINGS).count(2), 25);
        x.clear();
        Check.state("count while setting up", () -> x.count(1));
        Check.state("count(3) while setting up", () -> x.count(3));
    }

    private static void mate() {
        Check.same("mate at the beginning", new DroppedPieces().mate(), -1);
        DroppedPieces x = Setup.game("4k4/9/4P4/9/9/9/9/9/4K4 b G");
        Check.same("gold before the king", x.mate(), Setup.drop(5, 13));
        Check.same("mate changes nothing", x.made() + x.hand(0, 5) + x.at(13), 1);
        DroppedPieces first = Setup.game("k8/9/1G7/9/9/9/9/8R/4K4 b RG");
        Check.same("the first of several", first.mate(), Setup.move(71, 8));
        first.play(Setup.drop(5, 9));
        Check.same("another one mates too", first.result(), 1);
        DroppedPieces stale = Setup.game("k8/9/2N6/8R/9/9/9/9/4K4 b -");
        Check.same("no mate without check", stale.mate(), -1);
        stale.play(Setup.move(35, 17));
        Check.same("though no legal move is left", stale.result(), 1);
        Check.same("a pawn dropped between helps", Setup.game("k8/9/1G7/9/9/9/9/8R/4K4 b p").mate(), -1);
        Check.same("but not where there are pawns in the columns",
                Setup.game("k8/9/1G7/9/9/1ppppppp1/9/8R/4K4 b p").mate(), Setup.move(71, 8));
        Check.same("mate by player 1", Setup.game("4k4/r8/9/9/9/9/7g1/9/8K w -").mate(), Setup.move(9, 72));
        Check.same("mated already", Setup.game("k8/1G7/1P7/9/9/9/9/9/4K4 w -").mate(), -1);
        x.clear();
        Check.state("mate while setting up", x::mate);
    }
}
