import java.util.Arrays;
import java.util.NoSuchElementException;

/** Shogi: positions set up or played to, forwards and back, and what the rules say of them. */
public final class DroppedPieces {
    private static final int SETTING_UP = -1;
    private static final int MOST_IN_HAND = 18;
    private static final int DEEPEST_COUNT = 2;
    private static final int NO_MOVE = -1;
    private static final int GOES_ON = 0;
    private static final int NO_LEGAL_MOVE = 1;
    private static final int DRAWN = 2;
    private static final int CHECKED_BY_PLAYER = 3;
    private static final int CHECKED_BY_OTHER = 4;

    private final Board board;
    private final Rules rules;
    private final History history;
    private final MoveRow legal;
    private final MoveRow replies;
    private int toMove;

    public DroppedPieces() {
        board = new Board();
        rules = new Rules(board);
        history = new History();
        legal = new MoveRow(MoveRow.MOST);
        replies = new MoveRow(0);
        setBeginning();
    }

    public void begin() {
        setBeginning();
    }

    public void clear() {
        board.empty();
        history.length = 0;
        toMove = SETTING_UP;
    }

    public int put(int square, int value)
            throws IllegalStateException, IndexOutOfBoundsException, IllegalArgumentException {
        requireSettingUp();
        requireSquare(square);
        if (!Pieces.isValue(value)) {
            throw new IllegalArgumentException("no such value");
        }
        int before = board.squares[square];
        board.squares[square] = value;
        return before;
    }

    public void give(int player, int kind, int n) throws IllegalStateException, IllegalArgumentException {
        requireSettingUp();
        if (!Pieces.isPlayer(player) || !Pieces.isHandKind(kind) || n < 0 || n > MOST_IN_HAND) {
            throw new IllegalArgumentException("no such hand");
        }
        board.hands[Board.handIndex(player, kind)] = n;
    }

    public void start(int player) throws IllegalStateException, IllegalArgumentException {
        requireSettingUp();
        if (!Pieces.isPlayer(player) || !board.mayStart(player)) {
            throw new IllegalArgumentException("no game can begin so");
        }
        toMove = player;
    }

    public int at(int square) throws IndexOutOfBoundsException {
        requireSquare(square);
        return board.squares[square];
    }

    public int hand(int player, int kind) {
        if (!Pieces.isPlayer(player) || !Pieces.isHandKind(kind)) {
            return 0;
        }
        return board.hands[Board.handIndex(player, kind)];
    }

    public int player() {
        return toMove;
    }

    public boolean reaches(int player, int square) {
        return Pieces.isPlayer(player) && Pieces.isSquare(square) && board.isAttacked(player, square);
    }

    public boolean inCheck(int player) {
        return toMove != SETTING_UP && Pieces.isPlayer(player) && board.isKingAttacked(player);
    }

    public int moves() throws IllegalStateException {
        requireGame();
        rules.list(toMove, legal);
        return legal.size;
    }

    public int move(int k) throws IllegalStateException, IndexOutOfBoundsException {
        requireGame();
        rules.list(toMove, legal);
        if (k < 0 || k >= legal.size) {
            throw new IndexOutOfBoundsException("no such legal move");
        }
        return legal.numbers[k];
    }

    public boolean isLegal(int move) throws IllegalStateException {
        requireGame();
        rules.list(toMove, legal);
        return legal.holds(move);
    }

    public int result() throws IllegalStateException {
        requireGame();
        rules.list(toMove, legal);
        return outcome();
    }

    public int times() throws IllegalStateException {
        requireGame();
        return history.countSame(board, toMove);
    }

    public int play(int move) throws IllegalStateException, IllegalArgumentException {
        requireGame();
        rules.list(toMove, legal);
        if (history.length >= History.MOST || outcome() != GOES_ON) {
            throw new IllegalStateException("no move can be made any more");
        }
        if (!legal.holds(move)) {
            throw new IllegalArgumentException("not a legal move");
        }
        int taken = board.make(toMove, move);
        toMove = 1 - toMove;
        history.add(move, taken, board.isKingAttacked(toMove));
        return taken;
    }

    public int back() throws IllegalStateException, NoSuchElementException {
        requireGame();
        if (history.length == 0) {
            throw new NoSuchElementException("no move was made");
        }
        history.length--;
        int move = history.moves[history.length];
        toMove = 1 - toMove;
        board.takeBack(toMove, move, history.taken[history.length]);
        return move;
    }

    public int made() {
        return history.length;
    }

    public int count(int n) throws IllegalStateException, IllegalArgumentException {
        requireGame();
        if (n < 0 || n > DEEPEST_COUNT) {
            throw new IllegalArgumentException("not a length that is counted");
        }
        if (n == 0) {
            return 1;
        }
        rules.list(toMove, legal);
        return n == 1 ? legal.size : countReplies();
    }

    public int mate() throws IllegalStateException {
        requireGame();
        rules.list(toMove, legal);
        for (int k = 0; k < legal.size; k++) {
            if (isMatedBehind(legal.numbers[k])) {
                return legal.numbers[k];
            }
        }
        return NO_MOVE;
    }

    private void setBeginning() {
        board.setBeginning();
        history.length = 0;
        toMove = 0;
    }

    private void requireSettingUp() {
        if (toMove != SETTING_UP) {
            throw new IllegalStateException("no position is being set up");
        }
    }

    private void requireGame() {
        if (toMove == SETTING_UP) {
            throw new IllegalStateException("a position is being set up");
        }
    }

    private static void requireSquare(int square) {
        if (!Pieces.isSquare(square)) {
            throw new IndexOutOfBoundsException("no such square");
        }
    }

    /** The result, when the legal moves have just been listed. */
    private int outcome() {
        return legal.size == 0 ? NO_LEGAL_MOVE : history.repetition(board, toMove);
    }

    private int countReplies() {
        int sum = 0;
        for (int k = 0; k < legal.size; k++) {
            int move = legal.numbers[k];
            int taken = board.make(toMove, move);
            rules.list(1 - toMove, replies);
            sum += replies.size;
            board.takeBack(toMove, move, taken);
        }
        return sum;
    }

    private boolean isMatedBehind(int move) {
        int taken = board.make(toMove, move);
        boolean mated = board.isKingAttacked(1 - toMove);
        if (mated) {
            rules.list(1 - toMove, replies);
            mated = replies.size == 0;
        }
        board.takeBack(toMove, move, taken);
        return mated;
    }

    /** What kinds, values, players and squares are, and how each kind moves. */
    private static final class Pieces {
        static final int PAWN = 1;
        static final int KNIGHT = 3;
        static final int GOLD = 5;
        static final int BISHOP = 6;
        static final int ROOK = 7;
        static final int KING = 8;
        static final int NO_KIND = 13;
        static final int HIGHEST_KIND = 15;
        static final int PROMOTION = 8;

        static final int SIDE = 9;
        static final int SQUARES = 81;
        static final int ZONE_ROWS = 3;

        // Directions as player 0 sees them: ahead, then round to the right; last the knight's two.
        // Direction d turned round is d ^ 4 for the first eight, and d & 3 tells its line.
        static final int LINES = 8;
        static final int DIRECTIONS = 10;
        static final int[] ROW_STEP = {-1, -1, 0, 1, 1, 1, 0, -1, -2, -2};
        static final int[] COLUMN_STEP = {0, 1, 1, 1, 0, -1, -1, -1, -1, 1};

        // By kind, bit d is set when the piece goes one step (NEAR) or runs (FAR) in direction d.
        static final int[] NEAR = {0, 1, 1, 768, 171, 215, 170, 85, 255, 215, 215, 215, 215, 0, 255, 255};
        static final int[] FAR = {0, 0, 1, 0, 0, 0, 170, 85, 0, 0, 0, 0, 0, 0, 170, 85};

        static boolean isPlayer(int player) {
            return player == 0 || player == 1;
        }

        static boolean isSquare(int square) {
            return square >= 0 && square < SQUARES;
        }

        static boolean isHandKind(int kind) {
            return kind >= PAWN && kind <= ROOK;
        }

        static boolean isValue(int value) {
            return value >= -HIGHEST_KIND && value <= HIGHEST_KIND && value != NO_KIND && value != -NO_KIND;
        }

        static int kindOf(int value) {
            return value < 0 ? -value : value;
        }

        static int valueOf(int player, int kind) {
            return player == 0 ? kind : -kind;
        }

        static boolean isOf(int player, int value) {
            return player == 0 ? value > 0 : value < 0;
        }

        static int unpromoted(int kind) {
            return kind > KING ? kind - PROMOTION : kind;
        }

        static boolean canPromote(int kind) {
            return kind < KING && kind != GOLD;
        }

        static int rowsAhead(int player, int square) {
            int row = square / SIDE;
            return player == 0 ? row : SIDE - 1 - row;
        }

        static boolean isInZone(int player, int square) {
            return rowsAhead(player, square) < ZONE_ROWS;
        }

        /** Whether a piece could never move on from a square. */
        static boolean isStuck(int player, int kind, int square) {
            if (kind > KNIGHT) {
                return false;
            }
            return rowsAhead(player, square) < (kind == KNIGHT ? 2 : 1);
        }

        static boolean isOnBoard(int row, int column) {
            return row >= 0 && row < SIDE && column >= 0 && column < SIDE;
        }

        /** The next square in a direction as player 0 sees it; -1 beyond the edge. */
        static int neighbour(int square, int direction) {
            int row = square / SIDE + ROW_STEP[direction];
            int column = square % SIDE + COLUMN_STEP[direction];
            return isOnBoard(row, column) ? SIDE * row + column : -1;
        }

        /** Where a player's knight stands that moves to a square from one side; -1 beyond the edge. */
        static int knightSquare(int player, int square, int side) {
            int row = square / SIDE + (player == 0 ? 2 : -2);
            int column = square % SIDE + side;
            return isOnBoard(row, column) ? SIDE * row + column : -1;
        }

        /** Whether a piece moves to the square from which it is met in a direction, that far away. */
        static boolean strikes(int player, int kind, int direction, int distance) {
            int reach = distance == 1 ? NEAR[kind] : FAR[kind];
            // A piece of player 0 comes back along the direction; player 1 sees that one turned round.
            int seen = player == 0 ? direction ^ 4 : direction;
            return (reach >> seen & 1) != 0;
        }
    }

    /** A row of moves, and how a move's number is made up. */
    private static final class MoveRow {
        // 80 pieces with 16 squares each, promoting or not, and 7 kinds dropped on 79 squares.
        static final int MOST = 80 * 32 + 7 * 79;
        static final int DROP = 81;

        private static final int TO = 128;
        private static final int PROMOTES = 16384;

        final int[] numbers;
        int size;

        /** Counts all that is added, keeps no more than there is room for. */
        MoveRow(int room) {
            numbers = new int[room];
        }

        static int fromOf(int move) {
            return move % TO;
        }

        static int toOf(int move) {
            return move % PROMOTES / TO;
        }

        static boolean isPromotion(int move) {
            return move >= PROMOTES;
        }

        void add(int from, int to, boolean promotes) {
            if (size < numbers.length) {
                numbers[size] = from + TO * to + (promotes ? PROMOTES : 0);
            }
            size++;
        }

        boolean holds(int move) {
            for (int k = 0; k < size && k < numbers.length; k++) {
                if (numbers[k] == move) {
                    return true;
                }
            }
            return false;
        }
    }

    /** Squares and hands; where the kings are, once a game has begun. */
    private static final class Board {
        private static final int[] BACK_ROW = {2, 3, 4, 5, 8, 5, 4, 3, 2};
        private static final int HAND_SIZE = 8;

        final int[] squares = new int[Pieces.SQUARES];
        final int[] hands = new int[2 * HAND_SIZE];
        final int[] kings = new int[2];

        static int handIndex(int player, int kind) {
            return HAND_SIZE * player + kind;
        }

        void empty() {
            Arrays.fill(squares, 0);
            Arrays.fill(hands, 0);
        }

        void setBeginning() {
            empty();
            for (int column = 0; column < Pieces.SIDE; column++) {
                setBoth(8 * Pieces.SIDE + column, BACK_ROW[column]);
                setBoth(6 * Pieces.SIDE + column, Pieces.PAWN);
            }
            setBoth(7 * Pieces.SIDE + 1, Pieces.BISHOP);
            setBoth(7 * Pieces.SIDE + 7, Pieces.ROOK);
            findKings();
        }

        private void setBoth(int square, int kind) {
            squares[square] = kind;
            squares[Pieces.SQUARES - 1 - square] = -kind;
        }

        void copyFrom(Board other) {
            System.arraycopy(other.squares, 0, squares, 0, squares.length);
            System.arraycopy(other.hands, 0, hands, 0, hands.length);
        }

        boolean isSameAs(Board other) {
            for (int square = 0; square < squares.length; square++) {
                if (squares[square] != other.squares[square]) {
                    return false;
                }
            }
            for (int index = 0; index < hands.length; index++) {
                if (hands[index] != other.hands[index]) {
                    return false;
                }
            }
            return true;
        }

        boolean mayStart(int player) {
            if (countOf(Pieces.KING) != 1 || countOf(-Pieces.KING) != 1) {
                return false;
            }
            if (hasStuckPiece() || hasTwoPawnsInColumn(0) || hasTwoPawnsInColumn(1)) {
                return false;
            }
            findKings();
            return !isKingAttacked(1 - player);
        }

        private int countOf(int value) {
            int n = 0;
            for (int square = 0; square < squares.length; square++) {
                if (squares[square] == value) {
                    n++;
                }
            }
            return n;
        }

        private boolean hasStuckPiece() {
            for (int square = 0; square < squares.length; square++) {
                int value = squares[square];
                if (value != 0 && Pieces.isStuck(value > 0 ? 0 : 1, Pieces.kindOf(value), square)) {
                    return true;
                }
            }
            return false;
        }

        private boolean hasTwoPawnsInColumn(int player) {
            return countOf(Pieces.valueOf(player, Pieces.PAWN)) != Integer.bitCount(pawnColumns(player));
        }

        /** The columns where a player has a pawn, bit c for column c. */
        int pawnColumns(int player) {
            int pawn = Pieces.valueOf(player, Pieces.PAWN);
            int columns = 0;
            for (int square = 0; square < squares.length; square++) {
                if (squares[square] == pawn) {
                    columns |= 1 << square % Pieces.SIDE;
                }
            }
            return columns;
        }

        private void findKings() {
            for (int square = 0; square < squares.length; square++) {
                if (Pieces.kindOf(squares[square]) == Pieces.KING) {
                    kings[squares[square] > 0 ? 0 : 1] = square;
                }
            }
        }

        boolean isKingAttacked(int player) {
            return isAttacked(1 - player, kings[player]);
        }

        /** Whether a piece of a player moves to a square, or would if the other one had a piece there. */
        boolean isAttacked(int player, int square) {
            for (int direction = 0; direction < Pieces.LINES; direction++) {
                if (isAttackedAlong(player, square, direction)) {
                    return true;
                }
            }
            return isKnightAt(player, Pieces.knightSquare(player, square, -1))
                    || isKnightAt(player, Pieces.knightSquare(player, square, 1));
        }

        private boolean isAttackedAlong(int player, int square, int direction) {
            int row = square / Pieces.SIDE;
            int column = square % Pieces.SIDE;
            for (int distance = 1; distance < Pieces.SIDE; distance++) {
                row += Pieces.ROW_STEP[direction];
                column += Pieces.COLUMN_STEP[direction];
                if (!Pieces.isOnBoard(row, column)) {
                    return false;
                }
                int value = squares[Pieces.SIDE * row + column];
                if (value != 0) {
                    return Pieces.isOf(player, value)
                            && Pieces.strikes(player, Pieces.kindOf(value), direction, distance);
                }
            }
            return false;
        }

        boolean isKnightAt(int player, int square) {
            return square >= 0 && squares[square] == (player == 0 ? Pieces.KNIGHT : -Pieces.KNIGHT);
        }

        /** Makes a legal move: the kind that it takes, 0 for none. */
        int make(int player, int move) {
            int from = MoveRow.fromOf(move);
            int to = MoveRow.toOf(move);
            if (from > MoveRow.DROP) {
                int dropped = from - MoveRow.DROP;
                hands[handIndex(player, dropped)]--;
                squares[to] = Pieces.valueOf(player, dropped);
                return 0;
            }
            int taken = Pieces.kindOf(squares[to]);
            if (taken != 0) {
                hands[handIndex(player, Pieces.unpromoted(taken))]++;
            }
            int kind = Pieces.kindOf(squares[from]);
            squares[from] = 0;
            squares[to] = Pieces.valueOf(player, MoveRow.isPromotion(move) ? kind + Pieces.PROMOTION : kind);
            if (kind == Pieces.KING) {
                kings[player] = to;
            }
            return taken;
        }

        /** Undoes the latest move, which the player made and which took that kind. */
        void takeBack(int player, int move, int taken) {
            int from = MoveRow.fromOf(move);
            int to = MoveRow.toOf(move);
            int kind = Pieces.kindOf(squares[to]);
            squares[to] = Pieces.valueOf(1 - player, taken);
            if (from > MoveRow.DROP) {
                hands[handIndex(player, kind)]++;
                return;
            }
            if (taken != 0) {
                hands[handIndex(player, Pieces.unpromoted(taken))]--;
            }
            squares[from] = Pieces.valueOf(player, MoveRow.isPromotion(move) ? kind - Pieces.PROMOTION : kind);
            if (kind == Pieces.KING) {
                kings[player] = from;
            }
        }
    }

    /** What binds a player's pieces to the king: the checks against it, and the pieces that shield it. */
    private static final class Guard {
        private static final int FREE = -1;

        private final Board board;
        private final int[] pinLines = new int[Pieces.SQUARES];
        private final int[] answered = new int[Pieces.SQUARES];
        private int checks;

        Guard(Board board) {
            this.board = board;
        }

        void look(int player) {
            checks = 0;
            Arrays.fill(pinLines, FREE);
            Arrays.fill(answered, 0);
            for (int direction = 0; direction < Pieces.LINES; direction++) {
                lookAlong(player, direction);
            }
            lookForKnight(1 - player, Pieces.knightSquare(1 - player, board.kings[player], -1));
            lookForKnight(1 - player, Pieces.knightSquare(1 - player, board.kings[player], 1));
        }

        private void lookAlong(int player, int direction) {
            int row = board.kings[player] / Pieces.SIDE;
            int column = board.kings[player] % Pieces.SIDE;
            int shield = FREE;
            for (int distance = 1; distance < Pieces.SIDE; distance++) {
                row += Pieces.ROW_STEP[direction];
                column += Pieces.COLUMN_STEP[direction];
                if (!Pieces.isOnBoard(row, column)) {
                    return;
                }
                int square = Pieces.SIDE * row + column;
                int value = board.squares[square];
                if (value == 0) {
                    continue;
                }
                if (!Pieces.isOf(player, value)) {
                    if (Pieces.strikes(1 - player, Pieces.kindOf(value), direction, distance)) {
                        noteAttack(board.kings[player], direction, distance, shield);
                    }
                    return;
                }
                if (shield != FREE) {
                    return;
                }
                shield = square;
            }
        }

        private void noteAttack(int king, int direction, int distance, int shield) {
            if (shield != FREE) {
                pinLines[shield] = direction & 3;
                return;
            }
            checks++;
            int step = Pieces.SIDE * Pieces.ROW_STEP[direction] + Pieces.COLUMN_STEP[direction];
            for (int n = 1; n <= distance; n++) {
                answered[king + n * step]++;
            }
        }

        private void lookForKnight(int player, int square) {
            if (board.isKnightAt(player, square)) {
                checks++;
                answered[square]++;
            }
        }

        /** Whether a piece that comes to a square answers every check that stands now. */
        boolean allowsTo(int square) {
            return answered[square] == checks;
        }

        /** Whether a piece may leave a square in a direction without laying the king bare. */
        boolean allowsAlong(int square, int direction) {
            int line = pinLines[square];
            return line == FREE || direction < Pieces.LINES && (direction & 3) == line;
        }
    }

    /** Lists legal moves. */
    private static final class Rules {
        private static final int NOWHERE = -1;
        private static final int MOST_TARGETS = 20;
        // The directions in the order of the squares that they lead to.
        private static final int[] KING_ORDER = {7, 0, 1, 6, 2, 5, 4, 3};

        private final Board board;
        private final Guard guard;
        private final Guard replyGuard;
        private final MoveRow replies;
        private final int[] targets = new int[MOST_TARGETS];
        private int targetCount;

        Rules(Board board) {
            this.board = board;
            guard = new Guard(board);
            replyGuard = new Guard(board);
            replies = new MoveRow(0);
        }

        /** Lists a player's legal moves in their order; the other player must not be in check. */
        void list(int player, MoveRow row) {
            row.size = 0;
            guard.look(player);
            addBoardMoves(player, guard, row);
            int barred = pawnCheckSquare(player);
            if (barred != NOWHERE) {
                // A pawn's check comes from the next square: no drop answers it, only moves on the board.
                replies.size = 0;
                board.squares[barred] = Pieces.valueOf(player, Pieces.PAWN);
                replyGuard.look(1 - player);
                addBoardMoves(1 - player, replyGuard, replies);
                board.squares[barred] = 0;
                barred = replies.size == 0 ? barred : NOWHERE;
            }
            addDrops(player, barred, row);
        }

        private void addBoardMoves(int player, Guard bound, MoveRow row) {
            for (int from = 0; from < Pieces.SQUARES; from++) {
                int value = board.squares[from];
                if (Pieces.isOf(player, value)) {
                    if (Pieces.kindOf(value) == Pieces.KING) {
                        addKingMoves(player, from, row);
                    } else {
                        addPieceMoves(player, from, bound, row);
                    }
                }
            }
        }

        private void addKingMoves(int player, int from, MoveRow row) {
            int king = board.squares[from];
            // Lifted, so that it does not hide the squares behind it from what attacks it.
            board.squares[from] = 0;
            for (int turn = 0; turn < Pieces.LINES; turn++) {
                int to = Pieces.neighbour(from, KING_ORDER[turn]);
                if (to >= 0 && !Pieces.isOf(player, board.squares[to]) && !board.isAttacked(1 - player, to)) {
                    row.add(from, to, false);
                }
            }
            board.squares[from] = king;
        }

        private void addPieceMoves(int player, int from, Guard bound, MoveRow row) {
            int kind = Pieces.kindOf(board.squares[from]);
            boolean promotesAnywhere = Pieces.canPromote(kind) && Pieces.isInZone(player, from);
            targetCount = 0;
            for (int seen = 0; seen < Pieces.DIRECTIONS; seen++) {
                if ((Pieces.NEAR[kind] >> seen & 1) != 0 && bound.allowsAlong(from, seen)) {
                    addTargets(player, from, seen, (Pieces.FAR[kind] >> seen & 1) != 0, bound);
                }
            }
            for (int k = 0; k < targetCount; k++) {
                int to = targets[k];
                if (!Pieces.isStuck(player, kind, to)) {
                    row.add(from, to, false);
                }
                if (promotesAnywhere || Pieces.canPromote(kind) && Pieces.isInZone(player, to)) {
                    row.add(from, to, true);
                }
            }
        }

        /** Adds the squares that a piece comes to in one direction, as its player sees it. */
        private void addTargets(int player, int from, int seen, boolean runs, Guard bound) {
            int rowStep = player == 0 ? Pieces.ROW_STEP[seen] : -Pieces.ROW_STEP[seen];
            int columnStep = player == 0 ? Pieces.COLUMN_STEP[seen] : -Pieces.COLUMN_STEP[seen];
            int row = from / Pieces.SIDE;
            int column = from % Pieces.SIDE;
            int farthest = runs ? Pieces.SIDE - 1 : 1;
            for (int distance = 1; distance <= farthest; distance++) {
                row += rowStep;
                column += columnStep;
                if (!Pieces.isOnBoard(row, column)) {
                    return;
                }
                int to = Pieces.SIDE * row + column;
                int value = board.squares[to];
                if (Pieces.isOf(player, value)) {
                    return;
                }
                if (bound.allowsTo(to)) {
                    insertTarget(to);
                }
                if (value != 0) {
                    return;
                }
            }
        }

        /** Keeps the targets in rising order, since legal moves are listed so. */
        private void insertTarget(int to) {
            if (targetCount >= MOST_TARGETS) {
                return;
            }
            int k = targetCount;
            while (k > 0 && targets[k - 1] > to) {
                targets[k] = targets[k - 1];
                k--;
            }
            targets[k] = to;
            targetCount++;
        }

        /** Where a pawn could be dropped, but for the rule against mate by it, to give check. */
        private int pawnCheckSquare(int player) {
            int to = board.kings[1 - player] + (player == 0 ? Pieces.SIDE : -Pieces.SIDE);
            if (board.hands[Board.handIndex(player, Pieces.PAWN)] == 0 || !Pieces.isSquare(to)) {
                return NOWHERE;
            }
            boolean columnTaken = (board.pawnColumns(player) >> to % Pieces.SIDE & 1) != 0;
            return board.squares[to] == 0 && !columnTaken && guard.allowsTo(to) ? to : NOWHERE;
        }

        private void addDrops(int player, int barredPawn, MoveRow row) {
            for (int kind = Pieces.PAWN; kind <= Pieces.ROOK; kind++) {
                if (board.hands[Board.handIndex(player, kind)] > 0) {
                    int columns = kind == Pieces.PAWN ? board.pawnColumns(player) : 0;
                    addDropsOf(player, kind, columns, kind == Pieces.PAWN ? barredPawn : NOWHERE, row);
                }
            }
        }

        private void addDropsOf(int player, int kind, int barredColumns, int barredSquare, MoveRow row) {
            for (int to = 0; to < Pieces.SQUARES; to++) {
                if (board.squares[to] != 0 || to == barredSquare || !guard.allowsTo(to)) {
                    continue;
                }
                boolean columnBarred = (barredColumns >> to % Pieces.SIDE & 1) != 0;
                if (!columnBarred && !Pieces.isStuck(player, kind, to)) {
                    row.add(MoveRow.DROP + kind, to, false);
                }
            }
        }
    }

    /** The moves since the game began. */
    private static final class History {
        static final int MOST = 150;
        private static final int TOO_OFTEN = 4;

        final int[] moves = new int[MOST];
        final int[] taken = new int[MOST];
        private final boolean[] checks = new boolean[MOST];
        private final Board past = new Board();
        private int thirdBefore;
        int length;

        void add(int move, int takenKind, boolean check) {
            if (length < MOST) {
                moves[length] = move;
                taken[length] = takenKind;
                checks[length] = check;
                length++;
            }
        }

        /** How often the position was there; notes how many moves stood at the third time before now. */
        int countSame(Board now, int toMove) {
            past.copyFrom(now);
            int same = 1;
            int mover = toMove;
            for (int k = length - 1; k >= 0; k--) {
                mover = 1 - mover;
                past.takeBack(mover, moves[k], taken[k]);
                if (mover == toMove && past.isSameAs(now)) {
                    same++;
                    if (same == TOO_OFTEN) {
                        thirdBefore = k;
                    }
                }
            }
            return same;
        }

        /** The result as far as repetition makes it. */
        int repetition(Board now, int toMove) {
            if (countSame(now, toMove) < TOO_OFTEN) {
                return GOES_ON;
            }
            if (areAllChecks(thirdBefore)) {
                return CHECKED_BY_PLAYER;
            }
            return areAllChecks(thirdBefore + 1) ? CHECKED_BY_OTHER : DRAWN;
        }

        /** Whether each move of one player, from move k on, gave check. */
        private boolean areAllChecks(int k) {
            for (int mine = k; mine < length; mine += 2) {
                if (!checks[mine]) {
                    return false;
                }
            }
            return true;
        }
    }
}
