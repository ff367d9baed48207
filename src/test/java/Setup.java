/** Writes moves as numbers and sets positions up from the notation that shogi programs share (SFEN). */
final class Setup {
    private static final String LETTERS = ".PLNSGBRK";

    private Setup() {
    }

    static int move(int from, int to) {
        return from + 128 * to;
    }

    static int promote(int from, int to) {
        return move(from, to) + 16384;
    }

    static int drop(int kind, int to) {
        return move(81 + kind, to);
    }

    /** A new object with a game that begins with a position. */
    static DroppedPieces game(String sfen) {
        DroppedPieces x = new DroppedPieces();
        String[] parts = sfen.split(" ");
        x.clear();
        putAll(x, parts[0]);
        giveAll(x, parts[2]);
        x.start(parts[1].equals("b") ? 0 : 1);
        return x;
    }

    /** A new object with the squares of a position, still being set up. */
    static DroppedPieces squares(String board) {
        DroppedPieces x = new DroppedPieces();
        x.clear();
        putAll(x, board);
        return x;
    }

    private static void putAll(DroppedPieces x, String board) {
        int square = 0;
        int promoted = 0;
        for (char c : board.toCharArray()) {
            if (c == '+') {
                promoted = 8;
            } else if (Character.isDigit(c)) {
                square += c - '0';
            } else if (c != '/') {
                int kind = LETTERS.indexOf(Character.toUpperCase(c)) + promoted;
                x.put(square++, Character.isUpperCase(c) ? kind : -kind);
                promoted = 0;
            }
        }
    }

    private static void giveAll(DroppedPieces x, String hands) {
        int n = 0;
        for (char c : hands.toCharArray()) {
            if (c == '-') {
                return;
            }
            if (Character.isDigit(c)) {
                n = 10 * n + c - '0';
            } else {
                x.give(Character.isUpperCase(c) ? 0 : 1, LETTERS.indexOf(Character.toUpperCase(c)), Math.max(n, 1));
                n = 0;
            }
        }
    }
}
