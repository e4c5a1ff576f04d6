import java.util.Arrays;

/**
 * Chess by wire: moves said in as few signs as can be, what a short saying means, and what it costs.
 *
 * <p>Everything that a call needs is made by the constructor and used again, so that no call makes an object.
 */
public final class ChessWire {
    public static final int NONE = -1, BAD = -2, NOT = -3, FULL = -4;

    private static final int NULL = 1, INDEX = 2, CAST = 3, STORE = 4, SIZE = 5;
    private static final int LEAST_INT = 0x80000000;
    private static final long LEAST_LONG = 0x8000000000000000L;
    private static final int SQUARES = 64, LAST_MOVE = 4095;
    // A man goes to 27 squares at most, and a square is come to along 8 lines and by 8 leaps at most: of m men
    // the lesser of 27 m and 16 (64 - m) moves, which is never more than 640.
    private static final int MOST_MOVES = 640;
    private static final int KINDS = 6;

    private final Text[] texts;
    private final Board board;
    private final BoardReader reader;
    private final Saying anything;
    private final Saying saying;
    private final MoveList now;
    private final Namer namer;
    private final int[] weights;
    private final Coder coder;
    private final Foresight foresight;
    private final Game game;
    private final Dispute dispute;
    private final Sheet[] sheets;
    private int boardFault;
    private int playedSince;
    private int latestFinding;
    private boolean listed;

    public ChessWire() {
        texts = new Text[] {new Text(80), new Text(10), new Text(60)};
        board = new Board();
        reader = new BoardReader();
        anything = new Saying();
        saying = new Saying();
        now = new MoveList(MOST_MOVES);
        namer = new Namer();
        weights = new int[] {1, 1, 1, 1, 1, 1};
        coder = new Coder();
        foresight = new Foresight();
        game = new Game();
        dispute = new Dispute();
        sheets = new Sheet[] {new Sheet(), new Sheet(), new Sheet(), new Sheet()};
    }

    // ---- the board

    public int type(int text, int b) {
        if (isNoText(text) || b < 0 || b > 255) {
            return BAD;
        }
        if (!texts[text].append(b)) {
            return FULL;
        }
        textChanged(text);
        return texts[text].size();
    }

    public int wipe(int text) {
        if (isNoText(text)) {
            return BAD;
        }
        int had = texts[text].size();
        texts[text].clear();
        textChanged(text);
        return had;
    }

    public int fault(int text) {
        switch (text) {
            case 0: return boardFault;
            case 1: return Saying.faultOf(texts[1]);
            case 2: return Game.faultOf(texts[2]);
            default: return BAD;
        }
    }

    public int square(int square) {
        if (square < 0 || square >= SQUARES) {
            return BAD;
        }
        return board.letterOn(square);
    }

    public int side() {
        return board.turn();
    }

    public int moves(int i) {
        if (i < NONE) {
            return BAD;
        }
        listNow();
        return i == NONE ? now.size() : now.codeAt(i);
    }

    public int lawful(int move) {
        if (isNoMove(move)) {
            return BAD;
        }
        return placeOf(move) == NONE ? 0 : 1;
    }

    public int state() {
        listNow();
        boolean stuck = now.size() == 0;
        if (board.isAttacked()) {
            return stuck ? 2 : 1;
        }
        return stuck ? 3 : 0;
    }

    public int play(int move) {
        if (isNoMove(move)) {
            return BAD;
        }
        return playNow(move) ? playedSince : NOT;
    }

    public int read(int s) {
        if (isNoSheet(s)) {
            return BAD;
        }
        Sheet sheet = sheets[s];
        if (sheet.isLost()) {
            return finding(NULL);
        }
        int done = 0;
        while (done < sheet.size() && playNow(sheet.itemAt(done))) {
            done++;
        }
        return done;
    }

    public int home() {
        int had = playedSince;
        layOut();
        return had;
    }

    // ---- sayings

    public int shortest(int move, int i) {
        if (isNoMove(move) || i < NONE) {
            return BAD;
        }
        int place = placeOf(move);
        if (place == NONE) {
            return NOT;
        }
        return i == NONE ? now.signsOf(place) : now.signAt(place, i);
    }

    public int all() {
        listNow();
        int signs = 0;
        for (int place = 0; place < now.size(); place++) {
            signs += now.signsOf(place);
        }
        return signs;
    }

    public int means(int i) {
        if (i < NONE) {
            return BAD;
        }
        listNow();
        saying.parse(texts[1], 0, texts[1].size());
        int found = 0;
        for (int place = 0; place < now.size(); place++) {
            if (saying.fits(now.kindAt(place), now.codeAt(place))) {
                if (found == i) {
                    return now.codeAt(place);
                }
                found++;
            }
        }
        return i == NONE ? found : NONE;
    }

    public int could(int i) {
        if (i < NONE) {
            return BAD;
        }
        listNow();
        int found = 0;
        for (int place = 0; place < now.size(); place++) {
            if (isOneSignOff(place)) {
                if (found == i) {
                    return now.codeAt(place);
                }
                found++;
            }
        }
        return i == NONE ? found : NONE;
    }

    public int weight(int man, int v) {
        if (man < 0 || man >= KINDS || v < 0 || v > 9) {
            return BAD;
        }
        int was = weights[man];
        weights[man] = v;
        return was;
    }

    public int table(int k) {
        if (k < 2 || k > Coder.MOST_LETTERS) {
            return BAD;
        }
        listNow();
        return coder.leastFor(now, weights, k);
    }

    // ---- ahead

    public int answer(int move, int i) {
        if (isNoMove(move) || i < 0) {
            return BAD;
        }
        if (placeOf(move) == NONE) {
            return NOT;
        }
        foresight.goBehind(board, move, weights);
        return i < foresight.replies() ? foresight.answerTo(i) : BAD;
    }

    public long gain(int move, int i, int fee, int what) {
        if (isNoMove(move) || i < 0 || isNoFee(fee) || what < 0 || what > 1) {
            return refusedLong(BAD);
        }
        if (placeOf(move) == NONE) {
            return refusedLong(NOT);
        }
        foresight.goBehind(board, move, weights);
        if (i >= foresight.replies()) {
            return refusedLong(BAD);
        }
        if (foresight.answerTo(i) == NONE) {
            return refusedLong(NOT);
        }
        return what == 0 ? foresight.gainAbove(i, fee) : foresight.gainBelow(i, fee);
    }

    public int ahead(int move, int k, int fee, int i) {
        if (isNoMove(move) || k < 0 || k > Foresight.MOST_BEST || isNoFee(fee) || i < NONE) {
            return BAD;
        }
        if (placeOf(move) == NONE) {
            return NOT;
        }
        foresight.goBehind(board, move, weights);
        int best = foresight.rankBest(k, fee);
        return i == NONE ? best : foresight.bestAt(i);
    }

    // ---- games

    public int played(int what) {
        if (what < 0 || what > 2) {
            return BAD;
        }
        game.playOut(texts[2], board);
        switch (what) {
            case 0: return game.stoppedAt();
            case 1: return game.done();
            default: return game.signsSpent();
        }
    }

    public int move(int i) {
        if (i < 0) {
            return BAD;
        }
        game.playOut(texts[2], board);
        return game.codeAt(i);
    }

    public int purse(int v) {
        if (v < 0 || v > 99) {
            return BAD;
        }
        game.playOut(texts[2], board);
        return game.firstAbove(v);
    }

    public int readings() {
        game.split(texts[2]);
        return dispute.settle(game, board) ? dispute.ways() : FULL;
    }

    public int reading(int part, int what) {
        if (part < 0 || part >= Dispute.MOST_PARTS || what < 0 || what > 1) {
            return BAD;
        }
        game.split(texts[2]);
        if (!dispute.settle(game, board)) {
            return FULL;
        }
        return what == 0 ? dispute.firstAt(part) : dispute.unlikeAt(part);
    }

    // ---- sheets

    public int sheet(int s, int form, int n) {
        if (isNoSheet(s) || Sheet.isNoForm(form) || n > Sheet.MOST_ITEMS) {
            return BAD;
        }
        if (n < 0) {
            return finding(SIZE);
        }
        sheets[s].renew(form, n);
        return n;
    }

    public int lose(int s) {
        if (isNoSheet(s)) {
            return BAD;
        }
        if (sheets[s].isLost()) {
            return finding(NULL);
        }
        int had = sheets[s].size();
        sheets[s].drop();
        return had;
    }

    public int lay(int s, int form, int i, int v) {
        if (isNoSheet(s) || Sheet.isNoForm(form)) {
            return BAD;
        }
        int found = itemFinding(sheets[s], form, i);
        if (found != 0) {
            return finding(found);
        }
        sheets[s].put(i, v);
        return 1;
    }

    public int get(int s, int form, int i) {
        if (isNoSheet(s) || Sheet.isNoForm(form)) {
            return LEAST_INT;
        }
        int found = itemFinding(sheets[s], form, i);
        if (found != 0) {
            finding(found);
            return LEAST_INT;
        }
        return sheets[s].itemAt(i);
    }

    public int copy(int s, int i, int t, int j, int n) {
        if (isNoSheet(s) || isNoSheet(t)) {
            return BAD;
        }
        Sheet source = sheets[s];
        Sheet target = sheets[t];
        if (source.isLost() || target.isLost()) {
            return finding(NULL);
        }
        if (source.form() != target.form()) {
            return finding(STORE);
        }
        if (!source.hasRange(i, n) || !target.hasRange(j, n)) {
            return finding(INDEX);
        }
        target.takeFrom(source, i, j, n);
        return 1;
    }

    public int write(int s) {
        if (isNoSheet(s)) {
            return BAD;
        }
        if (sheets[s].isLost()) {
            return finding(NULL);
        }
        listNow();
        int room = Math.min(sheets[s].size(), now.size());
        for (int i = 0; i < room; i++) {
            sheets[s].put(i, now.codeAt(i));
        }
        return room;
    }

    public int count(int what) {
        switch (what) {
            case 0: return board.menOf(1) + board.menOf(-1);
            case 1: return board.menOf(1);
            case 2: return texts[0].size();
            case 3: return texts[1].size();
            case 4: return texts[2].size();
            case 5: return playedSince;
            case 6:
                game.split(texts[2]);
                return game.parts();
            case 7:
                listNow();
                return now.weightBy(weights);
            case 8: return latestFinding;
            default: return BAD;
        }
    }

    public long digest() {
        long h = 17;
        for (int what = 0; what <= 7; what++) {
            h = 31 * h + count(what);
        }
        for (int text = 0; text < texts.length; text++) {
            h = 31 * h + fault(text);
        }
        for (int square = 0; square < SQUARES; square++) {
            h = 31 * h + square(square);
        }
        h = 31 * h + side();
        h = 31 * h + state();
        h = 31 * h + moves(NONE);
        h = 31 * h + all();
        h = 31 * h + means(NONE);
        h = 31 * h + means(0);
        h = 31 * h + could(NONE);
        h = 31 * h + table(2);
        h = 31 * h + table(26);
        int first = moves(0);
        if (first != NONE) {
            int signs = shortest(first, NONE);
            h = 31 * h + signs;
            for (int i = 0; i < signs; i++) {
                h = 31 * h + shortest(first, i);
            }
            h = 31 * h + ahead(first, 9, 50, NONE);
        }
        for (int what = 0; what <= 2; what++) {
            h = 31 * h + played(what);
        }
        return 31 * h + purse(9);
    }

    // ---- what the acts share

    private boolean isNoText(int text) {
        return text < 0 || text >= texts.length;
    }

    private boolean isNoSheet(int s) {
        return s < 0 || s >= sheets.length;
    }

    private static boolean isNoMove(int move) {
        return move < 0 || move > LAST_MOVE;
    }

    private static boolean isNoFee(int fee) {
        return fee < 0 || fee > 99;
    }

    private static long refusedLong(int refusal) {
        return LEAST_LONG - refusal;
    }

    private int finding(int number) {
        latestFinding = number;
        return -10 - number;
    }

    private static int itemFinding(Sheet sheet, int form, int i) {
        if (sheet.isLost()) {
            return NULL;
        }
        if (sheet.form() != form) {
            return CAST;
        }
        return sheet.hasRange(i, 1) ? 0 : INDEX;
    }

    private void textChanged(int text) {
        if (text == 0) {
            layOut();
        }
    }

    private void layOut() {
        boardFault = reader.layOut(texts[0], board);
        playedSince = 0;
        listed = false;
    }

    private void listNow() {
        if (!listed) {
            board.listInto(now, anything);
            namer.nameAll(now, false);
            listed = true;
        }
    }

    private int placeOf(int move) {
        listNow();
        return now.placeOf(move);
    }

    private boolean playNow(int move) {
        if (placeOf(move) == NONE) {
            return false;
        }
        board.make(move);
        playedSince++;
        listed = false;
        return true;
    }

    private boolean isOneSignOff(int place) {
        Text said = texts[1];
        if (now.signsOf(place) != said.size()) {
            return false;
        }
        int unlike = 0;
        for (int i = 0; i < said.size(); i++) {
            if (now.signAt(place, i) != said.at(i)) {
                unlike++;
            }
        }
        return unlike == 1;
    }

    /** Bytes, one behind the other, up to a limit. */
    private static final class Text {
        private final int[] bytes;
        private int size;

        Text(int most) {
            bytes = new int[Math.max(0, most)];
        }

        int size() {
            return size;
        }

        int at(int i) {
            return i >= 0 && i < size ? bytes[i] : NONE;
        }

        boolean append(int b) {
            if (size >= bytes.length) {
                return false;
            }
            bytes[size] = b;
            size++;
            return true;
        }

        void clear() {
            size = 0;
        }
    }

    /** Who stands where, and who is to move. */
    private static final class Board {
        // A white man is his number, a black one the same below 0; 0 is nobody.
        private static final int PAWN = 1, KNIGHT = 2, BISHOP = 3, ROOK = 4, QUEEN = 5, KING = 6;
        private static final String WHITE_LETTERS = "PNBRQK", BLACK_LETTERS = "pnbrqk";
        private static final int STRAIGHT = 1, ASLANT = 2;
        // Directions by turns straight and aslant.
        private static final int[] STEP_COLUMN = {1, 1, 0, -1, -1, -1, 0, 1};
        private static final int[] STEP_ROW = {0, 1, 1, 1, 0, -1, -1, -1};
        private static final int[] LEAP_COLUMN = {1, 2, 2, 1, -1, -2, -2, -1};
        private static final int[] LEAP_ROW = {2, 1, -1, -2, -2, -1, 1, 2};

        private final int[] men;
        private int turn;
        private int whiteKing;
        private int blackKing;

        /** One with nobody on it but the two kings. */
        Board() {
            men = new int[SQUARES];
            men[0] = KING;
            men[SQUARES - 1] = -KING;
            whiteKing = 0;
            blackKing = SQUARES - 1;
        }

        static int manOf(int letter) {
            int white = WHITE_LETTERS.indexOf((char) letter);
            return white >= 0 ? white + 1 : -1 - BLACK_LETTERS.indexOf((char) letter);
        }

        static int letterOf(int man) {
            if (man > 0 && man <= KINDS) {
                return WHITE_LETTERS.charAt(man - 1);
            }
            return man < 0 && man >= -KINDS ? BLACK_LETTERS.charAt(-1 - man) : 0;
        }

        void clear() {
            Arrays.fill(men, 0);
            whiteKing = NONE;
            blackKing = NONE;
            turn = 0;
        }

        void put(int square, int man) {
            if (square < 0 || square >= SQUARES) {
                return;
            }
            men[square] = man;
            if (man == KING) {
                whiteKing = square;
            } else if (man == -KING) {
                blackKing = square;
            }
        }

        void setTurn(int whose) {
            turn = whose;
        }

        int turn() {
            return turn;
        }

        boolean hasKing(int man) {
            return man == KING ? whiteKing != NONE : man == -KING && blackKing != NONE;
        }

        void takeOver(Board other) {
            System.arraycopy(other.men, 0, men, 0, SQUARES);
            turn = other.turn;
            whiteKing = other.whiteKing;
            blackKing = other.blackKing;
        }

        int letterOn(int square) {
            return square >= 0 && square < SQUARES ? letterOf(men[square]) : 0;
        }

        /** How many men the white one (1) has, or the black one (-1). */
        int menOf(int own) {
            int found = 0;
            for (int square = 0; square < SQUARES; square++) {
                if (men[square] * own > 0) {
                    found++;
                }
            }
            return found;
        }

        boolean isAttacked() {
            int king = turn == 0 ? whiteKing : blackKing;
            return king != NONE && isStruck(king);
        }

        /** Plays a move that is lawful here. */
        void make(int code) {
            int from = code >> 6;
            int to = code & 63;
            if (from < 0 || from >= SQUARES) {
                return;
            }
            int man = men[from];
            int row = to >> 3;
            if (to == whiteKing) {
                whiteKing = NONE;
            } else if (to == blackKing) {
                blackKing = NONE;
            }
            men[from] = 0;
            if (man == PAWN && row == 7) {
                man = QUEEN;
            } else if (man == -PAWN && row == 0) {
                man = -QUEEN;
            }
            put(to, man);
            turn = 1 - turn;
        }

        /** Lists the lawful moves that a saying fits, in the order of their numbers. */
        void listInto(MoveList list, Saying filter) {
            list.clear();
            int own = turn == 0 ? 1 : -1;
            int king = turn == 0 ? whiteKing : blackKing;
            boolean calm = king == NONE || !isStruck(king);
            for (int from = 0; from < SQUARES; from++) {
                int kind = men[from] * own - 1;
                if (kind < 0) {
                    continue;
                }
                // A man that leaves no line of a calm king opens none to an attack on him.
                boolean free = king == NONE || calm && !areInLine(from, king);
                long targets = targetsOf(from, kind + 1, own);
                for (int tries = 0; tries < SQUARES && targets != 0; tries++) {
                    int to = Long.bitCount((targets & -targets) - 1);
                    targets &= targets - 1;
                    int code = from * SQUARES + to;
                    if (filter.fits(kind, code) && (free || keepsKing(from, to, king))) {
                        list.append(code, kind);
                    }
                }
            }
        }

        private static boolean areInLine(int one, int other) {
            int columns = (one & 7) - (other & 7);
            int rows = (one >> 3) - (other >> 3);
            return columns == 0 || rows == 0 || columns == rows || columns == -rows;
        }

        private boolean keepsKing(int from, int to, int king) {
            int man = men[from];
            int taken = men[to];
            men[from] = 0;
            men[to] = man;
            boolean safe = !isStruck(from == king ? to : king);
            men[from] = man;
            men[to] = taken;
            return safe;
        }

        /** Whether a man of the one who is not to move attacks a square. */
        private boolean isStruck(int square) {
            int foe = turn == 0 ? -1 : 1;
            int column = square & 7;
            int row = square >> 3;
            for (int d = 0; d < 8; d++) {
                int c = column + LEAP_COLUMN[d];
                int r = row + LEAP_ROW[d];
                if (c >= 0 && c < 8 && r >= 0 && r < 8 && men[r * 8 + c] == foe * KNIGHT) {
                    return true;
                }
                if (isStruckFrom(column, row, d, foe)) {
                    return true;
                }
            }
            return false;
        }

        private boolean isStruckFrom(int column, int row, int d, int foe) {
            for (int far = 1; far < 8; far++) {
                int c = column + far * STEP_COLUMN[d];
                int r = row + far * STEP_ROW[d];
                if (c < 0 || c >= 8 || r < 0 || r >= 8) {
                    return false;
                }
                int man = men[r * 8 + c] * foe;
                if (man == 0) {
                    continue;
                }
                boolean aslant = (d & 1) != 0;
                if (man == QUEEN || man == (aslant ? BISHOP : ROOK)) {
                    return true;
                }
                // Pawns strike forward: a white one stands below what it strikes, a black one above.
                return far == 1 && (man == KING || man == PAWN && aslant && STEP_ROW[d] == -foe);
            }
            return false;
        }

        private long targetsOf(int from, int man, int own) {
            switch (man) {
                case PAWN: return pawnTargets(from, own);
                case KNIGHT: return leapTargets(from, own);
                case BISHOP: return lineTargets(from, own, ASLANT, 7);
                case ROOK: return lineTargets(from, own, STRAIGHT, 7);
                case QUEEN: return lineTargets(from, own, STRAIGHT | ASLANT, 7);
                case KING: return lineTargets(from, own, STRAIGHT | ASLANT, 1);
                default: return 0;
            }
        }

        private long pawnTargets(int from, int own) {
            int column = from & 7;
            int row = (from >> 3) + own;
            if (row < 0 || row >= 8) {
                return 0;
            }
            long targets = 0;
            int front = row * 8 + column;
            if (men[front] == 0) {
                targets = 1L << front;
                int beyond = front + own * 8;
                if (row == (own > 0 ? 2 : 5) && men[beyond] == 0) {
                    targets |= 1L << beyond;
                }
            }
            if (column > 0 && men[front - 1] * own < 0) {
                targets |= 1L << (front - 1);
            }
            if (column < 7 && men[front + 1] * own < 0) {
                targets |= 1L << (front + 1);
            }
            return targets;
        }

        private long leapTargets(int from, int own) {
            long targets = 0;
            for (int d = 0; d < 8; d++) {
                int c = (from & 7) + LEAP_COLUMN[d];
                int r = (from >> 3) + LEAP_ROW[d];
                if (c >= 0 && c < 8 && r >= 0 && r < 8 && men[r * 8 + c] * own <= 0) {
                    targets |= 1L << (r * 8 + c);
                }
            }
            return targets;
        }

        private long lineTargets(int from, int own, int ways, int reach) {
            long targets = 0;
            for (int d = 0; d < 8; d++) {
                if ((ways & ((d & 1) == 0 ? STRAIGHT : ASLANT)) == 0) {
                    continue;
                }
                for (int far = 1; far <= reach; far++) {
                    int c = (from & 7) + far * STEP_COLUMN[d];
                    int r = (from >> 3) + far * STEP_ROW[d];
                    if (c < 0 || c >= 8 || r < 0 || r >= 8 || men[r * 8 + c] * own > 0) {
                        break;
                    }
                    targets |= 1L << (r * 8 + c);
                    if (men[r * 8 + c] != 0) {
                        break;
                    }
                }
            }
            return targets;
        }
    }

    /** Sets a board up as a text says. */
    private static final class BoardReader {
        private static final int IN_ROWS = 0, AT_SIDE = 1, AT_END = 2;

        private int row;
        private int column;
        private int stage;

        BoardReader() {
            stage = IN_ROWS;
        }

        /** Answers the fault of the text; with one the two kings stand alone. */
        int layOut(Text text, Board board) {
            board.clear();
            row = 7;
            column = 0;
            stage = IN_ROWS;
            int place = 0;
            while (place < text.size() && goesOn(text.at(place), board)) {
                place++;
            }
            if (place == text.size() && isWhole(board)) {
                return NONE;
            }
            board.clear();
            board.put(0, Board.KING);
            board.put(SQUARES - 1, -Board.KING);
            return place;
        }

        private boolean isWhole(Board board) {
            return stage == AT_END && board.hasKing(Board.KING) && board.hasKing(-Board.KING);
        }

        private boolean goesOn(int b, Board board) {
            if (stage == AT_SIDE) {
                board.setTurn(b == 'b' ? 1 : 0);
                stage = AT_END;
                return b == 'w' || b == 'b';
            }
            if (stage == AT_END) {
                return false;
            }
            if (b >= '1' && b <= '8') {
                column += b - '0';
                return column <= 8;
            }
            if (b == '/' || b == ' ') {
                return endsRow(b);
            }
            return placesMan(Board.manOf(b), board);
        }

        private boolean endsRow(int b) {
            if (column != 8 || (row == 0) != (b == ' ')) {
                return false;
            }
            if (row == 0) {
                stage = AT_SIDE;
            } else {
                row--;
                column = 0;
            }
            return true;
        }

        private boolean placesMan(int man, Board board) {
            if (man == 0 || column >= 8 || board.hasKing(man)) {
                return false;
            }
            board.put(row * 8 + column, man);
            column++;
            return true;
        }
    }

    /** Moves in a row, each with its man and the form of saying that is the shortest for it. */
    private static final class MoveList {
        private final int[] codes;
        private final int[] kinds;
        private final int[] forms;
        private int size;

        MoveList(int most) {
            int room = Math.max(0, most);
            codes = new int[room];
            kinds = new int[room];
            forms = new int[room];
        }

        void clear() {
            size = 0;
        }

        /** Beyond the room that there is, moves are left out. */
        void append(int code, int kind) {
            if (size < codes.length) {
                codes[size] = code;
                kinds[size] = kind;
                forms[size] = Namer.LAST_FORM;
                size++;
            }
        }

        int size() {
            return size;
        }

        int codeAt(int place) {
            return place >= 0 && place < size ? codes[place] : NONE;
        }

        int kindAt(int place) {
            return place >= 0 && place < size ? kinds[place] : 0;
        }

        int formAt(int place) {
            return place >= 0 && place < size ? forms[place] : Namer.LAST_FORM;
        }

        void setForm(int place, int form) {
            if (place >= 0 && place < size) {
                forms[place] = form;
            }
        }

        int placeOf(int code) {
            for (int place = 0; place < size; place++) {
                if (codes[place] == code) {
                    return place;
                }
            }
            return NONE;
        }

        int signsOf(int place) {
            return Integer.bitCount(Namer.partsOf(formAt(place)));
        }

        /** The first move with the fewest signs. */
        int placeOfFewest() {
            int fewest = NONE;
            for (int place = 0; place < size; place++) {
                if (fewest == NONE || signsOf(place) < signsOf(fewest)) {
                    fewest = place;
                }
            }
            return fewest;
        }

        int signAt(int place, int i) {
            return Saying.signAt(Namer.partsOf(formAt(place)), kindAt(place), codeAt(place), i);
        }

        int weightAt(int place, int[] weights) {
            int kind = kindAt(place);
            return kind >= 0 && kind < weights.length ? weights[kind] : 0;
        }

        int weightBy(int[] weights) {
            int sum = 0;
            for (int place = 0; place < size; place++) {
                sum += weightAt(place, weights);
            }
            return sum;
        }
    }

    /**
     * What is said of a move: some of its man and the columns and rows it is from and goes to. Of these parts
     * together a key is made, digit by digit, so that a saying fits a move if their keys are the same.
     */
    private static final class Saying {
        private static final int MAN = 16, FROM_COLUMN = 8, FROM_ROW = 4, TO_COLUMN = 2, TO_ROW = 1;
        private static final int START = 0, WITH_MAN = 1, ONE_COLUMN = 2, ONE_ROW = 3, WANTS_ROW = 4;
        private static final int ONE_SQUARE = 5, WHOLE = 6, DEAD = 7;

        private int parts;
        private int key;
        private boolean sound;

        /** One that says nothing and fits every move. */
        Saying() {
            sound = true;
        }

        private static boolean isColumn(int b) {
            return b >= 'a' && b <= 'h';
        }

        private static boolean isRow(int b) {
            return b >= '1' && b <= '8';
        }

        static int stageBehind(int stage, int b) {
            boolean column = isColumn(b);
            boolean row = isRow(b);
            switch (stage) {
                case START:
                    if (Board.manOf(b) > 0) {
                        return WITH_MAN;
                    }
                    return column ? ONE_COLUMN : row ? ONE_ROW : DEAD;
                case WITH_MAN: return column ? ONE_COLUMN : row ? ONE_ROW : DEAD;
                case ONE_COLUMN: return column ? WANTS_ROW : row ? ONE_SQUARE : DEAD;
                case ONE_ROW:
                case ONE_SQUARE: return column ? WANTS_ROW : DEAD;
                case WANTS_ROW: return row ? WHOLE : DEAD;
                default: return DEAD;
            }
        }

        static boolean mayEnd(int stage) {
            return stage == ONE_COLUMN || stage == ONE_ROW || stage == ONE_SQUARE || stage == WHOLE;
        }

        static int faultOf(Text text) {
            int stage = START;
            for (int place = 0; place < text.size(); place++) {
                stage = stageBehind(stage, text.at(place));
                if (stage == DEAD) {
                    return place;
                }
            }
            return mayEnd(stage) ? NONE : text.size();
        }

        /** Reads the bytes of a text from one place up to ahead of another. */
        void parse(Text text, int start, int end) {
            parts = 0;
            key = 0;
            int stage = START;
            for (int place = start; place < end; place++) {
                int b = text.at(place);
                stage = stageBehind(stage, b);
                if (stage == WITH_MAN) {
                    parts = MAN;
                    key = Board.manOf(b) - 1;
                } else if (stage != DEAD) {
                    addPart(b, end - place);
                }
            }
            sound = mayEnd(stage);
        }

        private void addPart(int b, int left) {
            boolean column = isColumn(b);
            if (left > 2) {
                parts |= column ? FROM_COLUMN : FROM_ROW;
            } else {
                parts |= column ? TO_COLUMN : TO_ROW;
            }
            key = key * 8 + (column ? b - 'a' : b - '1');
        }

        boolean fits(int kind, int code) {
            return sound && keyOf(parts, kind, code) == key;
        }

        static int keyOf(int parts, int kind, int code) {
            int key = (parts & MAN) != 0 ? kind : 0;
            if ((parts & FROM_COLUMN) != 0) {
                key = key * 8 + (code >> 6 & 7);
            }
            if ((parts & FROM_ROW) != 0) {
                key = key * 8 + (code >> 9 & 7);
            }
            if ((parts & TO_COLUMN) != 0) {
                key = key * 8 + (code & 7);
            }
            if ((parts & TO_ROW) != 0) {
                key = key * 8 + (code >> 3 & 7);
            }
            return key;
        }

        static int signAt(int parts, int kind, int code, int i) {
            int ahead = 0;
            for (int part = MAN; part > 0; part >>= 1) {
                if ((parts & part) == 0) {
                    continue;
                }
                if (ahead == i) {
                    return signOf(part, kind, code);
                }
                ahead++;
            }
            return NONE;
        }

        private static int signOf(int part, int kind, int code) {
            switch (part) {
                case MAN: return Board.letterOf(kind + 1);
                case FROM_COLUMN: return 'a' + (code >> 6 & 7);
                case FROM_ROW: return '1' + (code >> 9 & 7);
                case TO_COLUMN: return 'a' + (code & 7);
                default: return '1' + (code >> 3 & 7);
            }
        }
    }

    /** Finds the shortest sayings of the moves in a list that is whole. */
    private static final class Namer {
        // Fewer signs first; of like many the least byte by byte: figures stand ahead of men, men ahead of columns.
        private static final int[] PARTS = {
            Saying.TO_ROW,
            Saying.TO_COLUMN,
            Saying.MAN | Saying.TO_ROW,
            Saying.MAN | Saying.TO_COLUMN,
            Saying.TO_COLUMN | Saying.TO_ROW,
            Saying.FROM_ROW | Saying.TO_COLUMN | Saying.TO_ROW,
            Saying.MAN | Saying.TO_COLUMN | Saying.TO_ROW,
            Saying.FROM_COLUMN | Saying.TO_COLUMN | Saying.TO_ROW,
            Saying.MAN | Saying.FROM_ROW | Saying.TO_COLUMN | Saying.TO_ROW,
            Saying.MAN | Saying.FROM_COLUMN | Saying.TO_COLUMN | Saying.TO_ROW,
            Saying.FROM_COLUMN | Saying.FROM_ROW | Saying.TO_COLUMN | Saying.TO_ROW,
        };
        // It tells both squares, so that it never means two moves.
        private static final int LAST_FORM = 10;
        private static final int MOST_KEYS = KINDS * 8 * 8 * 8;

        private final int[] tally;

        Namer() {
            tally = new int[MOST_KEYS];
        }

        static int partsOf(int form) {
            return form >= 0 && form < PARTS.length ? PARTS[form] : 0;
        }

        private static int signsIn(int form) {
            return Integer.bitCount(partsOf(form));
        }

        /** If only the fewest are asked for, the longer ones may be left unsettled. */
        void nameAll(MoveList list, boolean onlyFewest) {
            int named = 0;
            for (int form = 0; form < LAST_FORM && named < list.size(); form++) {
                if (onlyFewest && named > 0 && signsIn(form) > signsIn(form - 1)) {
                    return;
                }
                named += nameBy(form, list);
            }
        }

        private int nameBy(int form, MoveList list) {
            for (int place = 0; place < list.size(); place++) {
                tally[slotOf(form, list, place)]++;
            }
            int named = 0;
            for (int place = 0; place < list.size(); place++) {
                if (list.formAt(place) == LAST_FORM && tally[slotOf(form, list, place)] == 1) {
                    list.setForm(place, form);
                    named++;
                }
            }
            for (int place = 0; place < list.size(); place++) {
                tally[slotOf(form, list, place)] = 0;
            }
            return named;
        }

        private int slotOf(int form, MoveList list, int place) {
            int slot = Saying.keyOf(partsOf(form), list.kindAt(place), list.codeAt(place));
            return slot >= 0 && slot < tally.length ? slot : 0;
        }
    }

    /** Joins the least weights, k at a time, as the least table of letters does. */
    private static final class Coder {
        private static final int MOST_LETTERS = 26, MOST_WEIGHT = 9;

        private final int[] leaves;
        private final int[] knots;
        private int leafCount;
        private int knotCount;
        private int leavesUsed;
        private int knotsUsed;

        Coder() {
            leaves = new int[MOST_MOVES + MOST_LETTERS];
            knots = new int[MOST_MOVES + MOST_LETTERS];
        }

        int leastFor(MoveList list, int[] weights, int k) {
            int joins = k - 1;
            if (list.size() < 2 || joins < 1) {
                return 0;
            }
            // Places left empty in the table go where its rows are longest: they count as moves of no weight.
            int empty = (joins - (list.size() - 1) % joins) % joins;
            fill(list, weights, empty);
            int least = 0;
            for (int left = leafCount - 1; left > 0; left -= joins) {
                int sum = 0;
                for (int letter = 0; letter < k; letter++) {
                    sum += takeLeast();
                }
                least += sum;
                if (knotCount < knots.length) {
                    knots[knotCount] = sum;
                    knotCount++;
                }
            }
            return least;
        }

        private void fill(MoveList list, int[] weights, int empty) {
            leafCount = 0;
            knotCount = 0;
            leavesUsed = 0;
            knotsUsed = 0;
            for (int i = 0; i < empty; i++) {
                addLeaf(0);
            }
            for (int weight = 0; weight <= MOST_WEIGHT; weight++) {
                for (int place = 0; place < list.size(); place++) {
                    if (list.weightAt(place, weights) == weight) {
                        addLeaf(weight);
                    }
                }
            }
        }

        private void addLeaf(int weight) {
            if (leafCount < leaves.length) {
                leaves[leafCount] = weight;
                leafCount++;
            }
        }

        /** Knots come about in ascending order too, so that the least is always the front of one of the two rows. */
        private int takeLeast() {
            boolean leaf = leavesUsed < leafCount;
            boolean knot = knotsUsed < knotCount;
            if (leaf && (!knot || leaves[leavesUsed] <= knots[knotsUsed])) {
                leavesUsed++;
                return leaves[leavesUsed - 1];
            }
            if (knot) {
                knotsUsed++;
                return knots[knotsUsed - 1];
            }
            return 0;
        }
    }

    /** The replies behind a move, the answers to them, and what it saves to send these ahead. */
    private static final class Foresight {
        private static final int MOST_BEST = 9;

        private final Namer namer;
        private final int[] weights;
        private final Saying anything;
        private final Board behindMove;
        private final Board behindReply;
        private final MoveList replies;
        private final MoveList answers;
        private final int[] bestMoves;
        private final int[] bestGains;
        private int bestCount;
        private int allWeights;
        private int answerSigns;

        Foresight() {
            namer = new Namer();
            weights = new int[KINDS];
            anything = new Saying();
            behindMove = new Board();
            behindReply = new Board();
            replies = new MoveList(MOST_MOVES);
            answers = new MoveList(MOST_MOVES);
            bestMoves = new int[MOST_BEST];
            bestGains = new int[MOST_BEST];
        }

        void goBehind(Board board, int move, int[] weightsNow) {
            System.arraycopy(weightsNow, 0, weights, 0, KINDS);
            behindMove.takeOver(board);
            behindMove.make(move);
            behindMove.listInto(replies, anything);
            namer.nameAll(replies, false);
            allWeights = replies.weightBy(weights);
        }

        int replies() {
            return replies.size();
        }

        /** Answers the answer to a reply, and keeps how many signs it has. */
        int answerTo(int reply) {
            behindReply.takeOver(behindMove);
            behindReply.make(replies.codeAt(reply));
            behindReply.listInto(answers, anything);
            namer.nameAll(answers, true);
            int place = answers.placeOfFewest();
            answerSigns = place == NONE ? 0 : answers.signsOf(place);
            return answers.codeAt(place);
        }

        long gainAbove(int reply, int fee) {
            int above = gainOf(reply, fee, answerSigns);
            return allWeights == 0 ? above : above / commonDivisor(Math.abs(above), allWeights);
        }

        long gainBelow(int reply, int fee) {
            int above = gainOf(reply, fee, answerSigns);
            return allWeights == 0 ? 1 : allWeights / commonDivisor(Math.abs(above), allWeights);
        }

        /** The gain as a fraction of all weights; where these are 0, the cost alone, below 0. */
        private int gainOf(int reply, int fee, int signs) {
            int cost = replies.signsOf(reply) + signs;
            if (allWeights == 0) {
                return -cost;
            }
            return (fee + signs) * replies.weightAt(reply, weights) - cost * allWeights;
        }

        private static int commonDivisor(int one, int other) {
            int a = one;
            int b = other;
            // The larger of the two is halved at least once in two rounds.
            for (int round = 0; round < SQUARES && b > 0; round++) {
                int rest = a % b;
                a = b;
                b = rest;
            }
            return a > 0 ? a : 1;
        }

        /** Puts the best replies in order and answers how many they are. */
        int rankBest(int most, int fee) {
            bestCount = 0;
            for (int reply = 0; reply < replies.size(); reply++) {
                // An answer has one sign at least, and with more of them nothing more is gained.
                if (gainOf(reply, fee, 1) > 0 && answerTo(reply) != NONE) {
                    int gained = gainOf(reply, fee, answerSigns);
                    if (gained > 0) {
                        rank(replies.codeAt(reply), gained, Math.min(most, MOST_BEST));
                    }
                }
            }
            return bestCount;
        }

        private void rank(int code, int gained, int most) {
            int place = bestCount;
            while (place > 0 && bestGains[place - 1] < gained) {
                place--;
            }
            if (place >= most) {
                return;
            }
            bestCount = Math.min(bestCount + 1, most);
            for (int behind = bestCount - 1; behind > place; behind--) {
                bestMoves[behind] = bestMoves[behind - 1];
                bestGains[behind] = bestGains[behind - 1];
            }
            bestMoves[place] = code;
            bestGains[place] = gained;
        }

        int bestAt(int i) {
            return i >= 0 && i < bestCount ? bestMoves[i] : NONE;
        }
    }

    /** A game as a row of sayings, and how far it can be played. */
    private static final class Game {
        private static final int MOST_PARTS = 12;

        private final Saying[] sayings;
        private final int[] signs;
        private final int[] codes;
        private final Board desk;
        private final MoveList list;
        private int parts;
        private int done;

        Game() {
            sayings = new Saying[MOST_PARTS];
            for (int part = 0; part < MOST_PARTS; part++) {
                sayings[part] = new Saying();
            }
            signs = new int[MOST_PARTS];
            codes = new int[MOST_PARTS];
            desk = new Board();
            // One move more than the one that a saying must mean shows that it means several.
            list = new MoveList(2);
        }

        static int faultOf(Text text) {
            if (text.size() == 0) {
                return NONE;
            }
            int stage = Saying.START;
            int begun = 1;
            for (int place = 0; place < text.size(); place++) {
                int b = text.at(place);
                if (b == ';' && Saying.mayEnd(stage)) {
                    stage = Saying.START;
                    begun++;
                    if (begun > MOST_PARTS) {
                        return place + 1;
                    }
                } else {
                    stage = Saying.stageBehind(stage, b);
                    if (stage == Saying.DEAD) {
                        return place;
                    }
                }
            }
            return Saying.mayEnd(stage) ? NONE : text.size();
        }

        void split(Text text) {
            parts = 0;
            if (text.size() == 0 || faultOf(text) != NONE) {
                return;
            }
            int start = 0;
            for (int place = 0; place <= text.size(); place++) {
                boolean ends = place == text.size() || text.at(place) == ';';
                if (ends && parts < MOST_PARTS) {
                    sayings[parts].parse(text, start, place);
                    signs[parts] = place - start;
                    parts++;
                    start = place + 1;
                }
            }
        }

        int parts() {
            return parts;
        }

        void listPart(int part, Board here, MoveList found) {
            if (part >= 0 && part < parts) {
                here.listInto(found, sayings[part]);
            } else {
                found.clear();
            }
        }

        void playOut(Text text, Board board) {
            split(text);
            desk.takeOver(board);
            done = 0;
            for (int part = 0; part < parts; part++) {
                listPart(part, desk, list);
                if (list.size() != 1) {
                    return;
                }
                codes[part] = list.codeAt(0);
                desk.make(codes[part]);
                done++;
            }
        }

        int stoppedAt() {
            return done < parts ? done : NONE;
        }

        int done() {
            return done;
        }

        int codeAt(int i) {
            return i >= 0 && i < done ? codes[i] : NONE;
        }

        int signsSpent() {
            int spent = 0;
            for (int part = 0; part < done; part++) {
                spent += signs[part];
            }
            return spent;
        }

        int firstAbove(int purse) {
            int spent = 0;
            for (int part = 0; part < done; part++) {
                spent += signs[part];
                if (spent > purse) {
                    return part;
                }
            }
            return NONE;
        }
    }

    /** All ways in which the sayings of a short game may be read. */
    private static final class Dispute {
        private static final int MOST_PARTS = 3, MOST_FITS = 40;

        private final Board[] boards;
        private final MoveList[] lists;
        private final int[] path;
        private final int[] first;
        private final int[] unlike;
        // For each part and each square the squares that moves of readings go to from there.
        private final long[] seen;
        private int ways;
        private boolean isFirstKept;
        private boolean tooMany;

        Dispute() {
            boards = new Board[] {new Board(), new Board(), new Board()};
            // One more than may fit shows that too many do.
            lists = new MoveList[] {
                new MoveList(MOST_FITS + 1), new MoveList(MOST_FITS + 1), new MoveList(MOST_FITS + 1)};
            path = new int[MOST_PARTS];
            first = new int[MOST_PARTS];
            unlike = new int[MOST_PARTS];
            seen = new long[MOST_PARTS * SQUARES];
        }

        /** Answers whether the readings can be told at all. */
        boolean settle(Game game, Board board) {
            if (game.parts() > MOST_PARTS) {
                return false;
            }
            Arrays.fill(seen, 0);
            isFirstKept = false;
            tooMany = false;
            for (int part = 0; part < MOST_PARTS; part++) {
                path[part] = NONE;
                first[part] = NONE;
                unlike[part] = 0;
            }
            boards[0].takeOver(board);
            ways = explore(this, game, 0);
            return !tooMany;
        }

        /** Answers in how many ways the game can be read from a part on. */
        private static int explore(Dispute dispute, Game game, int part) {
            if (part >= game.parts() || part >= MOST_PARTS) {
                dispute.keepFirst();
                return 1;
            }
            MoveList list = dispute.lists[part];
            game.listPart(part, dispute.boards[part], list);
            if (list.size() > MOST_FITS) {
                dispute.tooMany = true;
                return 0;
            }
            int found = 0;
            for (int i = 0; i < list.size() && !dispute.tooMany; i++) {
                dispute.step(part, list.codeAt(i));
                int behind = explore(dispute, game, part + 1);
                if (behind > 0) {
                    dispute.mark(part, list.codeAt(i));
                }
                found += behind;
            }
            return found;
        }

        private void step(int part, int code) {
            path[part] = code;
            if (part + 1 < MOST_PARTS) {
                boards[part + 1].takeOver(boards[part]);
                boards[part + 1].make(code);
            }
        }

        private void keepFirst() {
            if (!isFirstKept) {
                System.arraycopy(path, 0, first, 0, MOST_PARTS);
                isFirstKept = true;
            }
        }

        private void mark(int part, int code) {
            int slot = part * SQUARES + (code >> 6);
            long bit = 1L << (code & 63);
            if (slot >= 0 && slot < seen.length && (seen[slot] & bit) == 0) {
                seen[slot] |= bit;
                unlike[part]++;
            }
        }

        int ways() {
            return ways;
        }

        int firstAt(int part) {
            return part >= 0 && part < MOST_PARTS ? first[part] : NONE;
        }

        int unlikeAt(int part) {
            return part >= 0 && part < MOST_PARTS ? unlike[part] : 0;
        }
    }

    /** A row of items of one form, or none. */
    private static final class Sheet {
        private static final int BYTES = 0, SHORTS = 1, FORMS = 3, MOST_ITEMS = 60;

        private final int[] items;
        private boolean held;
        private int form;
        private int size;

        Sheet() {
            items = new int[MOST_ITEMS];
        }

        static boolean isNoForm(int form) {
            return form < 0 || form >= FORMS;
        }

        void renew(int newForm, int newSize) {
            held = true;
            form = newForm;
            size = Math.max(0, Math.min(newSize, MOST_ITEMS));
            Arrays.fill(items, 0);
        }

        void drop() {
            held = false;
            size = 0;
        }

        boolean isLost() {
            return !held;
        }

        int form() {
            return form;
        }

        int size() {
            return size;
        }

        boolean hasRange(int start, int length) {
            return start >= 0 && length >= 0 && start <= size && length <= size - start;
        }

        int itemAt(int i) {
            return i >= 0 && i < size ? items[i] : 0;
        }

        void put(int i, int v) {
            if (i >= 0 && i < size) {
                items[i] = form == BYTES ? (byte) v : form == SHORTS ? (short) v : v;
            }
        }

        /** Takes over a range that both sheets have. */
        void takeFrom(Sheet other, int start, int at, int length) {
            if (other.hasRange(start, length) && hasRange(at, length)) {
                System.arraycopy(other.items, start, items, at, length);
            }
        }
    }
}
