import java.util.function.IntSupplier;
import java.util.function.Supplier;

/** All that the face shows of an object, as text. Objects are made several times: each may answer 512 calls only. */
final class View {
    private static final int MOST_MOVES = 250;

    private View() {
    }

    static String of(Supplier<DroppedPieces> make) {
        StringBuilder all = new StringBuilder();
        addPosition(make.get(), all);
        addReach(make.get(), all);
        addAnswers(make.get(), all);
        if (make.get().player() < 0) {
            addStarted(make.get(), 0, all);
            addStarted(make.get(), 1, all);
        } else {
            addMoves(make.get(), all);
            addWayBack(make.get(), all);
        }
        return all.toString();
    }

    /** The first line in which two views are not the same; empty when they are. */
    static String difference(String got, String due) {
        String[] gotLines = got.split("\n");
        String[] dueLines = due.split("\n");
        for (int k = 0; k < gotLines.length && k < dueLines.length; k++) {
            if (!gotLines[k].equals(dueLines[k])) {
                return gotLines[k] + " in place of " + dueLines[k];
            }
        }
        return got.equals(due) ? "" : "not the same number of lines";
    }

    private static void addPosition(DroppedPieces x, StringBuilder all) {
        for (int s = 0; s < 81; s++) {
            all.append("at ").append(s).append(": ").append(x.at(s)).append('\n');
        }
        for (int kind = 1; kind < 8; kind++) {
            all.append("hands of ").append(kind).append(": ");
            all.append(x.hand(0, kind)).append(' ').append(x.hand(1, kind)).append('\n');
        }
        all.append("player ").append(x.player()).append(", made ").append(x.made()).append('\n');
        all.append("in check ").append(x.inCheck(0)).append(' ').append(x.inCheck(1)).append('\n');
    }

    private static void addReach(DroppedPieces x, StringBuilder all) {
        for (int s = 0; s < 81; s++) {
            all.append("reaches ").append(s).append(": ");
            all.append(x.reaches(0, s)).append(' ').append(x.reaches(1, s)).append('\n');
        }
    }

    private static void addAnswers(DroppedPieces x, StringBuilder all) {
        all.append("moves ").append(ask(x::moves)).append('\n');
        all.append("result ").append(ask(x::result)).append('\n');
        all.append("times ").append(ask(x::times)).append('\n');
        all.append("mate ").append(ask(x::mate)).append('\n');
        for (int n = 0; n <= 2; n++) {
            int rows = n;
            all.append("count ").append(n).append(": ").append(ask(() -> x.count(rows))).append('\n');
        }
    }

    private static void addMoves(DroppedPieces x, StringBuilder all) {
        int n = Math.min(x.moves(), MOST_MOVES);
        for (int k = 0; k < n; k++) {
            all.append("move ").append(k).append(": ").append(x.move(k)).append('\n');
        }
    }

    private static void addWayBack(DroppedPieces x, StringBuilder all) {
        int n = x.made();
        for (int k = 0; k < n; k++) {
            all.append("back ").append(k).append(": ").append(ask(x::back)).append('\n');
        }
        for (int s = 0; s < 81; s++) {
            all.append("at first ").append(s).append(": ").append(x.at(s)).append('\n');
        }
        all.append("at first ").append(x.player()).append(' ').append(ask(x::times)).append('\n');
        all.append("back once more: ").append(ask(x::back)).append('\n');
        all.append("put: ").append(ask(() -> x.put(40, 0))).append('\n');
    }

    private static void addStarted(DroppedPieces x, int player, StringBuilder all) {
        all.append("start ").append(player).append(": ").append(ask(() -> {
            x.start(player);
            return 0;
        })).append('\n');
        all.append("behind it: ").append(x.player()).append(' ').append(x.made()).append(' ').append(ask(x::moves));
        all.append(' ').append(ask(x::times)).append(' ').append(ask(x::back)).append('\n');
    }

    /** The answer, or the name of the exception. */
    private static String ask(IntSupplier call) {
        try {
            return Integer.toString(call.getAsInt());
        } catch (RuntimeException e) {
            return e.getClass().getSimpleName();
        }
    }
}
