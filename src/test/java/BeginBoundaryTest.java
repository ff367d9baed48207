import java.util.NoSuchElementException;

/** Boundary cases of promises 1 to 3: a new object, begin, clear. */
public final class BeginBoundaryTest {
    private static final int[] BEGINNING = {
        -2, -3, -4, -5, -8, -5, -4, -3, -2,
        0, -7, 0, 0, 0, 0, 0, -6, 0,
        -1, -1, -1, -1, -1, -1, -1, -1, -1,
        0, 0, 0, 0, 0, 0, 0, 0, 0,
        0, 0, 0, 0, 0, 0, 0, 0, 0,
        0, 0, 0, 0, 0, 0, 0, 0, 0,
        1, 1, 1, 1, 1, 1, 1, 1, 1,
        0, 6, 0, 0, 0, 0, 0, 7, 0,
        2, 3, 4, 5, 8, 5, 4, 3, 2};

    public static void main(String[] args) {
        Check.runAll(BeginBoundaryTest.class);
    }

    /** "At the beginning player 0 has ..": every square. */
    static void promise01EverySquareAtTheBeginning() {
        DroppedPieces x = new DroppedPieces();
        for (int s = 0; s < 81; s++) {
            Check.same("at(" + s + ")", x.at(s), BEGINNING[s]);
        }
    }

    /** "player 1 the same turned round (square s becomes 80 - s)". */
    static void promise01PlayerOneTurnedRound() {
        DroppedPieces x = new DroppedPieces();
        for (int s = 0; s < 81; s++) {
            Check.same("at(" + (80 - s) + ")", x.at(80 - s), -x.at(s));
        }
    }

    /** "hands are empty". */
    static void promise01EmptyHands() {
        DroppedPieces x = new DroppedPieces();
        for (int kind = 1; kind <= 7; kind++) {
            Check.same("hand(0, " + kind + ")", x.hand(0, kind), 0);
            Check.same("hand(1, " + kind + ")", x.hand(1, kind), 0);
        }
    }

    /** "player 0 is to move". */
    static void promise01PlayerZeroToMove() {
        Check.same("player()", new DroppedPieces().player(), 0);
    }

    /** "a game began": no move was made, the position is there once, nothing is being set up. */
    static void promise01AGameBegan() {
        DroppedPieces x = new DroppedPieces();
        Check.same("made()", x.made(), 0);
        Check.same("times()", x.times(), 1);
        Check.same("result()", x.result(), 0);
        Check.same("moves()", x.moves(), 30);
        Check.fails("back()", NoSuchElementException.class, x::back);
        Check.state("put", () -> x.put(40, 1));
        Check.state("give", () -> x.give(0, 1, 1));
        Check.state("start", () -> x.start(0));
    }

    /** Two objects know nothing of one another. */
    static void promise01ObjectsStandApart() {
        DroppedPieces x = new DroppedPieces();
        DroppedPieces y = new DroppedPieces();
        x.play(Setup.move(56, 47));
        y.clear();
        y.put(56, -14);
        Check.same("the first: at(56)", x.at(56), 0);
        Check.same("the first: at(47)", x.at(47), 1);
        Check.same("the first: player()", x.player(), 1);
        Check.same("the second: at(56)", y.at(56), -14);
        Check.same("the second: at(47)", y.at(47), 0);
        Check.same("another new one", View.difference(View.of(DroppedPieces::new), Scene.NEW.view()), "");
    }

    /** "The beginning again", wherever the object is: nothing is left of what was. */
    static void promise02FromEverywhere() {
        for (Scene scene : Scene.all()) {
            String got = View.of(() -> {
                DroppedPieces x = scene.make();
                x.begin();
                return x;
            });
            Check.same("begin behind " + scene, View.difference(got, Scene.NEW.view()), "");
        }
    }

    static void promise02Twice() {
        DroppedPieces x = Scene.PLAYED.make();
        x.begin();
        x.begin();
        Check.same("at(40)", x.at(40), 0);
        Check.same("made()", x.made(), 0);
        Check.same("times()", x.times(), 1);
    }

    /** "a game begins": how often a position was there is counted anew. */
    static void promise02CountsAnew() {
        DroppedPieces x = Scene.DRAWN.make();
        Check.same("times() before", x.times(), 4);
        x.begin();
        Check.same("times()", x.times(), 1);
        Scene.rounds(2, x, Setup.move(70, 69), Setup.move(10, 11), Setup.move(69, 70), Setup.move(11, 10));
        Check.same("times() two rounds later", x.times(), 3);
        Check.same("result() two rounds later", x.result(), 0);
    }

    /** "a game begins": there is room for 150 moves again. */
    static void promise02RoomForMovesAgain() {
        DroppedPieces x = Scene.FULL.make();
        x.begin();
        Check.same("play", x.play(Setup.move(60, 51)), 0);
        Check.same("made()", x.made(), 1);
        Check.same("back()", x.back(), Setup.move(60, 51));
        Check.fails("back() once more", NoSuchElementException.class, x::back);
    }

    /** "begin" while a position is being set up: it is no more. */
    static void promise02EndsSettingUp() {
        for (Scene scene : Scene.setUps()) {
            DroppedPieces x = scene.make();
            x.begin();
            Check.same("player()", x.player(), 0);
            Check.state("put behind begin", () -> x.put(40, 1));
            Check.state("give behind begin", () -> x.give(0, 1, 1));
            Check.state("start behind begin", () -> x.start(0));
        }
    }

    /** "all squares and hands are empty", wherever the object was. */
    static void promise03FromEverywhere() {
        for (Scene scene : Scene.all()) {
            String got = View.of(() -> Scene.cleared(scene.make()));
            Check.same("clear behind " + scene, View.difference(got, Scene.CLEARED.view()), "");
        }
    }

    static void promise03EverySquareAndHandIsEmpty() {
        for (Scene scene : Scene.all()) {
            DroppedPieces x = Scene.cleared(scene.make());
            for (int s = 0; s < 81; s++) {
                Check.same(scene + " at(" + s + ")", x.at(s), 0);
            }
            for (int kind = 1; kind <= 7; kind++) {
                Check.same(scene + " hands of " + kind, x.hand(0, kind) + x.hand(1, kind), 0);
            }
        }
    }

    static void promise03FullBoardAndHandsAreCleared() {
        DroppedPieces x = Scene.cleared(new DroppedPieces());
        for (int s = 0; s < 81; s++) {
            x.put(s, s % 2 == 0 ? 15 : -15);
        }
        for (int kind = 1; kind <= 7; kind++) {
            x.give(0, kind, 18);
            x.give(1, kind, 18);
        }
        x.clear();
        for (int s = 0; s < 81; s++) {
            Check.same("at(" + s + ")", x.at(s), 0);
        }
        for (int kind = 1; kind <= 7; kind++) {
            Check.same("hands of " + kind, x.hand(0, kind) + x.hand(1, kind), 0);
        }
    }

    static void promise03Twice() {
        DroppedPieces x = Scene.cleared(Scene.cleared(Scene.PLAYED.make()));
        Check.same("player()", x.player(), -1);
        Check.same("put", x.put(40, 5), 0);
    }

    /** "there is no game so long". */
    static void promise03NoGame() {
        for (Scene scene : Scene.all()) {
            DroppedPieces x = Scene.cleared(scene.make());
            Check.same(scene + " player()", x.player(), -1);
            Check.same(scene + " made()", x.made(), 0);
            Check.no(scene + " inCheck(0)", x.inCheck(0));
            Check.no(scene + " inCheck(1)", x.inCheck(1));
            Check.state(scene + " moves()", x::moves);
            Check.state(scene + " move(0)", () -> x.move(0));
            Check.state(scene + " isLegal", () -> x.isLegal(Setup.move(54, 45)));
            Check.state(scene + " result()", x::result);
            Check.state(scene + " times()", x::times);
            Check.state(scene + " play", () -> x.play(Setup.move(54, 45)));
            Check.state(scene + " back()", x::back);
            Check.state(scene + " count(0)", () -> x.count(0));
            Check.state(scene + " mate()", x::mate);
        }
    }

    /** "until start begins a game": not before, and not by a start that is refused. */
    static void promise03UntilStart() {
        DroppedPieces x = Scene.cleared(new DroppedPieces());
        Check.argument("start without kings", () -> x.start(0));
        Check.same("player() behind a refused start", x.player(), -1);
        Check.state("moves() behind a refused start", x::moves);
        x.put(4, -8);
        x.put(76, 8);
        Check.state("moves() before start", x::moves);
        x.start(0);
        Check.same("player() behind start", x.player(), 0);
        Check.same("moves() behind start", x.moves(), 5);
        Check.state("put behind start", () -> x.put(40, 1));
    }

    /** The moves of the game before are gone, the next one has room for 150 again. */
    static void promise03ForgetsMoves() {
        DroppedPieces x = Scene.cleared(Scene.FULL.make());
        x.put(0, -8);
        x.put(54, 8);
        x.start(0);
        Check.same("made()", x.made(), 0);
        Check.same("times()", x.times(), 1);
        Check.fails("back()", NoSuchElementException.class, x::back);
        for (int k = 0; k < 150; k++) {
            x.play(Scene.step(k));
        }
        Check.same("made() at the end", x.made(), 150);
    }
}
