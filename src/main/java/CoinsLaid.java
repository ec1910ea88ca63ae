import java.util.ArrayList;
import java.util.NoSuchElementException;

/**
 * Coins laid on a table: a text tells the boards, the pieces and what lies; the object answers who
 * has the game, how it may run out, and what players by rules make of it.
 */
public final class CoinsLaid {
    public static final int NONE = -1;

    private static final int NO_LAY = -2;
    private static final int TAPE_ROOM = 900;
    private static final int BYTES_FED = 20;
    private static final int MOST_SQUARES = 14;
    private static final int MOST_WIDE = 8;
    private static final int MOST_HIGH = 4;
    private static final int MOST_BOARDS = 3;
    private static final int MOST_PIECES = 4;
    private static final int MOST_LAYS_TOLD = 8;
    private static final int SEEDS = 65537;
    private static final int PLAYERS = 5;

    private static final int NOT_REFUSED = 0;
    private static final int NO_SUCH = 1;
    private static final int BAD_NUMBER = 2;
    private static final int NO_ROOM = 3;
    private static final int FAULTY = 4;
    private static final int NOT_SO = 5;
    private static final int NOTHING_THERE = 6;

    private final int[] tape = new int[TAPE_ROOM];
    private int tapeLength;
    private int latestFault;
    private int faultPlace;
    private int latestTrouble;
    private Table current;
    private Outlook outlook = new Outlook(0);
    private final Laid laid = new Laid();
    private final Laid toldAsLaid = new Laid();
    private final Past past = new Past();
    private final Players players = new Players();
    private final Rows rowSizes = new Rows();

    public CoinsLaid() {
    }

    // ---- the table

    public int feed(int a, int b, int c, int d, int e) {
        if (tapeLength > TAPE_ROOM - BYTES_FED) {
            return NONE;
        }
        append(a);
        append(b);
        append(c);
        append(d);
        append(e);
        return tapeLength;
    }

    private void append(int number) {
        for (int shift = 24; shift >= 0; shift -= 8) {
            if (tapeLength >= 0 && tapeLength < tape.length) {
                tape[tapeLength] = (number >>> shift) & 255;
                tapeLength++;
            }
        }
    }

    public int table(int n) {
        if (n < 0 || n > tapeLength) {
            return refuse(BAD_NUMBER);
        }
        tapeLength = 0;
        toldAsLaid.clear();
        Telling telling = new Telling(new Tokens(tape, n), toldAsLaid);
        boolean good = telling.readAll();
        latestFault = telling.fault;
        faultPlace = telling.place;
        if (!good) {
            return refuse(FAULTY);
        }
        begin(telling.table);
        return accept(current.lays.length);
    }

    private void begin(Table table) {
        current = table;
        laid.copy(toldAsLaid);
        past.clear();
        if (!outlook.hasRoomFor(table)) {
            outlook = new Outlook(table.squares);
        }
        outlook.turnTo(table);
    }

    public int fault() {
        return latestFault;
    }

    public int where() {
        return latestTrouble == FAULTY ? faultPlace : NONE;
    }

    // ---- lays

    public int lay(int l, int what) {
        Lay lay = layNumbered(l);
        if (lay == null || what < 0 || what > 5) {
            return refuse(NO_SUCH);
        }
        return accept(lay.part(what));
    }

    public int layOf(int piece, int board, int x, int y, int turns) {
        if (current == null || current.pieceAt(piece) == null || current.boardAt(board) == null) {
            return refuse(NO_SUCH);
        }
        if (turns < 0 || turns > 3) {
            return refuse(BAD_NUMBER);
        }
        return accept(numberOf(current.layAtPlace(piece, board, x, y, turns)));
    }

    public int may(int l) {
        Lay lay = layNumbered(l);
        if (lay == null) {
            return refuse(NO_SUCH);
        }
        return accept(lay.mayBe(laid.taken, laid.next()) ? 1 : 0);
    }

    public int lays() {
        if (current == null) {
            return refuse(NO_SUCH);
        }
        return accept(current.countThatMay(laid.taken, laid.next()));
    }

    public int layAt(int i) {
        Lay lay = current == null ? null : current.thatMay(laid.taken, laid.next(), i);
        if (lay == null) {
            return refuse(NO_SUCH);
        }
        return accept(lay.number);
    }

    public int across(int l) {
        Lay lay = layNumbered(l);
        if (lay == null) {
            return refuse(NO_SUCH);
        }
        return accept(numberOf(lay.turned));
    }

    public int taken() {
        if (current == null) {
            return refuse(NO_SUCH);
        }
        return accept(laid.taken);
    }

    public int dead() {
        if (current == null) {
            return refuse(NO_SUCH);
        }
        return accept(current.deadSquares(laid.taken));
    }

    // ---- who has it

    public int over() {
        if (current == null) {
            return refuse(NO_SUCH);
        }
        return accept(isOver() ? 1 : 0);
    }

    public int has() {
        if (current == null) {
            return refuse(NO_SUCH);
        }
        return accept(outlook.isWon(laid.taken, laid.next()) ? 1 : 0);
    }

    public int best() {
        if (current == null) {
            return refuse(NO_SUCH);
        }
        return accept(numberOf(outlook.firstWinning(laid.taken, laid.next())));
    }

    public int good() {
        if (current == null) {
            return refuse(NO_SUCH);
        }
        return accept(outlook.countWinning(laid.taken, laid.next()));
    }

    public int soonest() {
        return read(Outlook.SOONEST);
    }

    public long ways() {
        if (current == null) {
            return refuse(NO_SUCH);
        }
        accept(0);
        return outlook.rowsOfLays(laid.taken, laid.next());
    }

    public int heap(int board) {
        if (current == null) {
            return refuse(NO_SUCH);
        }
        if (board != NONE && current.boardAt(board) == null) {
            return refuse(NO_SUCH);
        }
        if (!current.isHeap()) {
            return refuse(NOT_SO);
        }
        if (board == NONE) {
            return accept(outlook.grundyOfAll(laid.taken));
        }
        return accept(outlook.grundyOf(current.boardAt(board), laid.taken));
    }

    public int byAcross() {
        if (current == null) {
            return refuse(NO_SUCH);
        }
        return accept(current.heldByAcross(laid.taken));
    }

    public int half(int board) {
        Board asked = current == null ? null : current.boardAt(board);
        if (asked == null) {
            return refuse(NO_SUCH);
        }
        return accept(current.isSameTurned(asked, laid.taken) ? 1 : 0);
    }

    public int spoils(int l) {
        Lay lay = layNumbered(l);
        if (lay == null) {
            return refuse(NO_SUCH);
        }
        if (!lay.mayBe(laid.taken, laid.next())) {
            return refuse(NOT_SO);
        }
        return accept(current.countSpoiled(laid.taken, lay));
    }

    public int open(int square) {
        if (current == null || square < 0 || square >= current.squares) {
            return refuse(NO_SUCH);
        }
        return accept(current.countOpen(laid.taken, square));
    }

    public int elbow() {
        if (current == null) {
            return refuse(NO_SUCH);
        }
        return accept(outlook.turningSquare(laid.taken, laid.next()));
    }

    // ---- fullest, barest, drunk

    public int fewest() {
        return read(Outlook.FEWEST);
    }

    public int most() {
        return read(Outlook.MOST);
    }

    public int lot() {
        return read(Outlook.LOT);
    }

    // ---- rows

    public int size(int n, int k) {
        if (!Rows.isLength(n) || !Rows.isWidth(k)) {
            return refuse(BAD_NUMBER);
        }
        return accept(rowSizes.sizeOf(n, k));
    }

    public int rows(int n, int second, int third, int k) {
        if (!Rows.isLength(n) || !Rows.isLength(second) || !Rows.isLength(third) || !Rows.isWidth(k)) {
            return refuse(BAD_NUMBER);
        }
        int together = rowSizes.sizeOf(n, k) ^ rowSizes.sizeOf(second, k) ^ rowSizes.sizeOf(third, k);
        return accept(together != 0 ? 1 : 0);
    }

    public int rowLay(int n, int k, int v) {
        if (!Rows.isLength(n) || !Rows.isWidth(k) || v < 0 || v > 99) {
            return refuse(BAD_NUMBER);
        }
        return accept(rowSizes.firstMaking(n, k, v));
    }

    public int round(int k, boolean start) {
        if (!Rows.isWidth(k)) {
            return refuse(BAD_NUMBER);
        }
        int period = rowSizes.periodOf(k);
        if (period == NONE) {
            return accept(NO_LAY);
        }
        return accept(start ? rowSizes.startOf(k, period) : period);
    }

    // ---- players

    public int would(int player) {
        if (current == null || !isPlayer(player)) {
            return refuse(NO_SUCH);
        }
        return accept(numberOf(players.wouldLay(player, outlook, laid)));
    }

    public int match(int player, int other) {
        if (current == null || !isPlayer(player) || !isPlayer(other)) {
            return refuse(NO_SUCH);
        }
        return accept(winnerBehind(players.lengthOfMatch(player, other, outlook, laid)));
    }

    public int matchLong(int player, int other) {
        if (current == null || !isPlayer(player) || !isPlayer(other)) {
            return refuse(NO_SUCH);
        }
        return accept(players.lengthOfMatch(player, other, outlook, laid));
    }

    public int beats(int player) {
        if (current == null || !isPlayer(player)) {
            return refuse(NO_SUCH);
        }
        int beaten = 0;
        for (int other = 0; other < PLAYERS; other++) {
            if (winnerBehind(players.lengthOfMatch(player, other, outlook, laid)) == 0) {
                beaten |= 1 << other;
            }
        }
        return accept(beaten);
    }

    // ---- acts

    public boolean puts(int l) {
        Lay lay = layNumbered(l);
        if (lay == null) {
            return deny(NO_SUCH);
        }
        if (!lay.mayBe(laid.taken, laid.next())) {
            return deny(NOT_SO);
        }
        past.keep(laid);
        laid.add(lay);
        return grant();
    }

    public int takes() {
        if (current == null) {
            return refuse(NO_SUCH);
        }
        Lay latest = laid.latest();
        if (latest == null) {
            return refuse(NOTHING_THERE);
        }
        past.keep(laid);
        laid.dropLatest();
        return accept(latest.number);
    }

    public int plays(int player) {
        if (current == null || !isPlayer(player)) {
            return refuse(NO_SUCH);
        }
        if (isOver()) {
            return refuse(NOTHING_THERE);
        }
        past.keep(laid);
        Lay lay = players.choose(player, outlook, laid);
        laid.add(lay);
        return accept(numberOf(lay));
    }

    public boolean seed(int v) {
        if (current == null) {
            return deny(NO_SUCH);
        }
        if (v < 0 || v >= SEEDS) {
            return deny(BAD_NUMBER);
        }
        laid.seed = v;
        return grant();
    }

    public boolean undo() {
        return past.undoTo(laid) ? grant() : deny(NOTHING_THERE);
    }

    public int image() {
        if (current == null) {
            return refuse(NO_SUCH);
        }
        int number = past.addImage(laid);
        return number == NONE ? refuse(NO_ROOM) : accept(number);
    }

    public boolean back(int image) {
        return past.backTo(image, laid) ? grant() : deny(NO_SUCH);
    }

    // ---- what is told

    public int led(int i) throws NoSuchElementException {
        Lay lay = laid.at(i);
        if (lay == null) {
            throw new NoSuchElementException();
        }
        return lay.number;
    }

    public int told(int what) {
        switch (what) {
            case 6: return laid.count;
            case 7: return laid.next();
            case 8: return laid.seed;
            case 9: return past.kept;
            case 10: return past.images;
            case 11: return tapeLength;
            default: return toldOfTable(what);
        }
    }

    public int trouble() {
        return latestTrouble;
    }

    private int toldOfTable(int what) {
        if (what < 0 || what > 5) {
            return NONE;
        }
        if (current == null) {
            return 0;
        }
        switch (what) {
            case 0: return current.boards.size();
            case 1: return current.pieces.size();
            case 2: return current.squares;
            case 3: return Integer.bitCount(current.jugs);
            case 4: return current.wins ? 1 : 0;
            default: return current.apart ? 1 : 0;
        }
    }

    // ---- what the calls share

    private int refuse(int trouble) {
        latestTrouble = trouble;
        return NONE;
    }

    private int accept(int answer) {
        latestTrouble = NOT_REFUSED;
        return answer;
    }

    private boolean deny(int trouble) {
        latestTrouble = trouble;
        return false;
    }

    private boolean grant() {
        latestTrouble = NOT_REFUSED;
        return true;
    }

    private int read(int measure) {
        if (current == null) {
            return refuse(NO_SUCH);
        }
        return accept(outlook.measured(measure, laid.taken, laid.next()));
    }

    private Lay layNumbered(int number) {
        return current == null ? null : current.layNumbered(number);
    }

    private boolean isOver() {
        return current == null || current.thatMay(laid.taken, laid.next(), 0) == null;
    }

    private int winnerBehind(int length) {
        int stuckOne = length & 1;
        return current != null && current.wins ? stuckOne : 1 - stuckOne;
    }

    private static int numberOf(Lay lay) {
        return lay == null ? NO_LAY : lay.number;
    }

    private static boolean isPlayer(int player) {
        return player >= 0 && player < PLAYERS;
    }

    /** The text's tokens, one at a time. */
    private static final class Tokens {
        static final int END = 0;
        static final int WORD = 1;
        static final int WHOLE = 2;
        static final int SIGN = 3;
        static final int NO_TOKEN = 4;

        private static final int LONGEST_WORD = 8;
        private static final int LONGEST_WHOLE = 3;

        private final int[] bytes;
        final int end;
        int place;
        int kind;
        private int length;

        Tokens(int[] bytes, int end) {
            this.bytes = bytes;
            this.end = end;
        }

        void advance() {
            int at = place + length;
            while (at < end && byteAt(at) == ' ') {
                at++;
            }
            place = at;
            kind = kindOf(byteAt(at));
            length = runFrom(at);
            if (kind == WORD && length > LONGEST_WORD || kind == WHOLE && length > LONGEST_WHOLE) {
                kind = NO_TOKEN;
            }
        }

        private int runFrom(int start) {
            if (kind != WORD && kind != WHOLE) {
                return kind == END ? 0 : 1;
            }
            int at = start + 1;
            while (at < end && kindOf(byteAt(at)) == kind) {
                at++;
            }
            return at - start;
        }

        private static int kindOf(int sign) {
            if (sign == NONE) {
                return END;
            }
            if (sign >= 'a' && sign <= 'z') {
                return WORD;
            }
            if (sign >= '0' && sign <= '9') {
                return WHOLE;
            }
            return sign == ';' || sign == ',' ? SIGN : NO_TOKEN;
        }

        private int byteAt(int at) {
            return at >= 0 && at < end && at < bytes.length ? bytes[at] : NONE;
        }

        boolean isWord(String word) {
            if (kind != WORD || length != word.length()) {
                return false;
            }
            for (int i = 0; i < length; i++) {
                if (byteAt(place + i) != word.charAt(i)) {
                    return false;
                }
            }
            return true;
        }

        boolean isSign(char sign) {
            return kind == SIGN && byteAt(place) == sign;
        }

        boolean isName() {
            return kind == WORD && !isWord("table") && !isWord("board") && !isWord("jug")
                    && !isWord("piece") && !isWord("lay");
        }

        /** The word as a number of base 27: two words have the same one only if they are the same. */
        long wordCode() {
            long code = 0;
            for (int i = 0; i < length && i < LONGEST_WORD; i++) {
                code = code * 27 + (byteAt(place + i) - 'a' + 1);
            }
            return code;
        }

        int wholeValue() {
            int value = 0;
            for (int i = 0; i < length && i < LONGEST_WHOLE; i++) {
                value = value * 10 + (byteAt(place + i) - '0');
            }
            return value;
        }
    }

    /** Reads a text line by line into a table and what lies on it, up to the first fault. */
    private static final class Telling {
        private static final int FORM = 1;
        private static final int UNTOLD = 2;
        private static final int AGAIN = 3;
        private static final int BOUNDS = 4;
        private static final int MANY = 5;
        private static final int LACKS = 6;
        private static final int MAY_NOT = 7;

        private final Tokens tokens;
        private final Laid laid;
        final Table table = new Table();
        int fault;
        int place;
        private long newName;
        private int pairFirst;
        private int pairSecond;

        Telling(Tokens tokens, Laid laid) {
            this.tokens = tokens;
            this.laid = laid;
        }

        boolean readAll() {
            tokens.advance();
            for (int line = 0; line <= tokens.end; line++) {
                boolean good = tokens.isWord("table") ? readTable()
                        : tokens.isWord("board") ? readBoard()
                        : tokens.isWord("jug") ? readJug()
                        : tokens.isWord("piece") ? readPiece()
                        : tokens.isWord("lay") ? readLay()
                        : fail(FORM);
                if (!good) {
                    return false;
                }
                if (tokens.kind == Tokens.END) {
                    return readEnd();
                }
                if (!passSign(';')) {
                    return false;
                }
            }
            return fail(FORM);
        }

        private boolean readEnd() {
            if (!table.lawTold || table.boards.isEmpty() || table.pieces.isEmpty()) {
                return fail(LACKS);
            }
            table.makeLays();
            return true;
        }

        private boolean readTable() {
            if (table.lawTold) {
                return fail(AGAIN);
            }
            tokens.advance();
            if (!tokens.isWord("loses") && !tokens.isWord("wins")) {
                return fail(FORM);
            }
            table.lawTold = true;
            table.wins = tokens.isWord("wins");
            tokens.advance();
            table.apart = passPerhaps("apart");
            return true;
        }

        private boolean readBoard() {
            if (!passFirstWord(table.boards.size() < MOST_BOARDS) || !passNewName()) {
                return false;
            }
            if (!passWord("wide") || !isWholeWithin(1, MOST_WIDE)) {
                return false;
            }
            int wide = tokens.wholeValue();
            tokens.advance();
            if (!passWord("high") || !isWholeWithin(1, MOST_HIGH)) {
                return false;
            }
            int high = tokens.wholeValue();
            if (table.squares + wide * high > MOST_SQUARES) {
                return fail(BOUNDS);
            }
            table.addBoard(newName, wide, high);
            tokens.advance();
            return true;
        }

        private boolean readJug() {
            if (!passFirstWord(true)) {
                return false;
            }
            if (!tokens.isName()) {
                return fail(FORM);
            }
            Board board = table.boardNamed(tokens.wordCode());
            if (board == null) {
                return fail(UNTOLD);
            }
            tokens.advance();
            if (!readPair(0, board.wide - 1, board.high - 1)) {
                return false;
            }
            int square = board.bit(pairFirst, pairSecond);
            if ((table.jugs & square) != 0) {
                return fail(AGAIN);
            }
            table.jugs |= square;
            tokens.advance();
            return true;
        }

        private boolean readPiece() {
            if (!passFirstWord(table.pieces.size() < MOST_PIECES) || !passNewName()) {
                return false;
            }
            int kind = kindTold();
            if (kind == NONE) {
                return fail(FORM);
            }
            tokens.advance();
            pairFirst = 1;
            pairSecond = 1;
            if (kind != Piece.COIN) {
                int least = kind == Piece.CORNER ? 2 : 1;
                int most = kind == Piece.CORNER ? 3 : 4;
                if (!readPair(least, most, most)) {
                    return false;
                }
                tokens.advance();
            }
            Piece piece = new Piece(table.pieces.size(), newName, kind, pairFirst, pairSecond);
            piece.turns = passPerhaps("turns");
            piece.owner = ownerTold();
            table.pieces.add(piece);
            return true;
        }

        private int kindTold() {
            if (tokens.isWord("coin")) {
                return Piece.COIN;
            }
            if (tokens.isWord("block")) {
                return Piece.BLOCK;
            }
            return tokens.isWord("corner") ? Piece.CORNER : NONE;
        }

        private int ownerTold() {
            if (passPerhaps("first")) {
                return 0;
            }
            return passPerhaps("second") ? 1 : Piece.ANYONE;
        }

        private boolean readLay() {
            if (laid.count >= MOST_LAYS_TOLD) {
                return fail(MANY);
            }
            if (!table.lawTold) {
                return fail(LACKS);
            }
            tokens.advance();
            if (tokens.kind != Tokens.WHOLE) {
                return fail(FORM);
            }
            table.makeLays();
            Lay lay = table.layNumbered(tokens.wholeValue());
            if (lay == null || !lay.mayBe(laid.taken, laid.next())) {
                return fail(MAY_NOT);
            }
            laid.add(lay);
            tokens.advance();
            return true;
        }

        /** Stops at the second whole, as a fault of both may still stand there. */
        private boolean readPair(int least, int mostFirst, int mostSecond) {
            if (!isWholeWithin(least, mostFirst)) {
                return false;
            }
            pairFirst = tokens.wholeValue();
            tokens.advance();
            if (!passSign(',') || !isWholeWithin(least, mostSecond)) {
                return false;
            }
            pairSecond = tokens.wholeValue();
            return true;
        }

        /** The first word of a line that no lay may be told ahead of. */
        private boolean passFirstWord(boolean hasRoom) {
            if (!hasRoom) {
                return fail(MANY);
            }
            if (table.laysMade) {
                return fail(LACKS);
            }
            tokens.advance();
            return true;
        }

        private boolean passNewName() {
            if (!tokens.isName()) {
                return fail(FORM);
            }
            newName = tokens.wordCode();
            if (table.isNameTold(newName)) {
                return fail(AGAIN);
            }
            tokens.advance();
            return true;
        }

        private boolean isWholeWithin(int least, int most) {
            if (tokens.kind != Tokens.WHOLE) {
                return fail(FORM);
            }
            int value = tokens.wholeValue();
            return value < least || value > most ? fail(BOUNDS) : true;
        }

        private boolean passWord(String word) {
            return passPerhaps(word) ? true : fail(FORM);
        }

        private boolean passPerhaps(String word) {
            if (!tokens.isWord(word)) {
                return false;
            }
            tokens.advance();
            return true;
        }

        private boolean passSign(char sign) {
            if (!tokens.isSign(sign)) {
                return fail(FORM);
            }
            tokens.advance();
            return true;
        }

        private boolean fail(int number) {
            fault = number;
            place = tokens.place;
            return false;
        }
    }

    private static final class Board {
        final int number;
        final long name;
        final int wide;
        final int high;
        private final int firstSquare;

        Board(int number, long name, int wide, int high, int firstSquare) {
            this.number = number;
            this.name = name;
            this.wide = wide;
            this.high = high;
            this.firstSquare = firstSquare;
        }

        int bit(int x, int y) {
            if (x < 0 || x >= wide || y < 0 || y >= high) {
                return 0;
            }
            return 1 << (firstSquare + y * wide + x);
        }

        int allSquares() {
            return ((1 << (wide * high)) - 1) << firstSquare;
        }

        int turnedHalfRound(int squares) {
            int turned = 0;
            for (int y = 0; y < high; y++) {
                for (int x = 0; x < wide; x++) {
                    if ((squares & bit(x, y)) != 0) {
                        turned |= bit(wide - 1 - x, high - 1 - y);
                    }
                }
            }
            return turned;
        }

        int withThoseBeside(int squares) {
            int all = squares;
            for (int y = 0; y < high; y++) {
                for (int x = 0; x < wide; x++) {
                    if ((squares & bit(x, y)) != 0) {
                        all |= bit(x - 1, y) | bit(x + 1, y) | bit(x, y - 1) | bit(x, y + 1);
                    }
                }
            }
            return all;
        }
    }

    private static final class Piece {
        static final int COIN = 0;
        static final int BLOCK = 1;
        static final int CORNER = 2;
        static final int ANYONE = -1;

        final int number;
        final long name;
        private final int kind;
        private final int wide;
        private final int high;
        boolean turns;
        int owner = ANYONE;

        Piece(int number, long name, int kind, int wide, int high) {
            this.number = number;
            this.name = name;
            this.kind = kind;
            this.wide = wide;
            this.high = high;
        }

        /** A turned shape counts only if none that is turned less is the same. */
        private boolean hasShape(int turned) {
            if (turned == 0) {
                return true;
            }
            if (!turns || kind == COIN) {
                return false;
            }
            return kind == CORNER || turned == 1 && wide != high;
        }

        private int wideWhen(int turned) {
            return (turned & 1) == 0 ? wide : high;
        }

        private int highWhen(int turned) {
            return (turned & 1) == 0 ? high : wide;
        }

        /** None if there is no such shape, or it goes over the board's edge. */
        int squaresOn(Board board, int x, int y, int turned) {
            int width = wideWhen(turned);
            int height = highWhen(turned);
            if (!hasShape(turned) || x + width > board.wide || y + height > board.high) {
                return 0;
            }
            int squares = 0;
            for (int down = 0; down < height; down++) {
                for (int right = 0; right < width; right++) {
                    if (!isMissing(right, down, turned)) {
                        squares |= board.bit(x + right, y + down);
                    }
                }
            }
            return squares;
        }

        /** The missing square of a corner goes round with it: lower right, lower left, upper left, upper right. */
        private boolean isMissing(int right, int down, int turned) {
            if (kind != CORNER) {
                return false;
            }
            int missingRight = turned == 0 || turned == 3 ? wideWhen(turned) - 1 : 0;
            int missingDown = turned < 2 ? highWhen(turned) - 1 : 0;
            return right == missingRight && down == missingDown;
        }
    }

    private static final class Lay {
        final int number;
        final Piece piece;
        final Board board;
        private final int x;
        private final int y;
        private final int turns;
        final int squares;
        /** The squares that no piece may have already: its own, and those beside if pieces lie apart. */
        int guard;
        Lay turned;

        Lay(int number, Piece piece, Board board, int x, int y, int turns, int squares) {
            this.number = number;
            this.piece = piece;
            this.board = board;
            this.x = x;
            this.y = y;
            this.turns = turns;
            this.squares = squares;
            this.guard = squares;
        }

        int part(int what) {
            switch (what) {
                case 0: return piece.number;
                case 1: return board.number;
                case 2: return x;
                case 3: return y;
                case 4: return turns;
                default: return squares;
            }
        }

        boolean isAt(int atX, int atY, int atTurns) {
            return x == atX && y == atY && turns == atTurns;
        }

        boolean hasRoom(int taken) {
            return (guard & taken) == 0;
        }

        boolean mayBe(int taken, int next) {
            return hasRoom(taken) && (piece.owner == Piece.ANYONE || piece.owner == next);
        }
    }

    /** What a text tells ahead of its lays, and all the lays there are. */
    private static final class Table {
        boolean lawTold;
        boolean wins;
        boolean apart;
        final ArrayList<Board> boards = new ArrayList<Board>();
        final ArrayList<Piece> pieces = new ArrayList<Piece>();
        int squares;
        int jugs;
        boolean laysMade;
        Lay[] lays = new Lay[0];

        void addBoard(long name, int wide, int high) {
            boards.add(new Board(boards.size(), name, wide, high, squares));
            squares += wide * high;
        }

        Board boardAt(int i) {
            return i >= 0 && i < boards.size() ? boards.get(i) : null;
        }

        Piece pieceAt(int i) {
            return i >= 0 && i < pieces.size() ? pieces.get(i) : null;
        }

        Board boardNamed(long name) {
            for (int i = 0; i < boards.size(); i++) {
                if (boards.get(i).name == name) {
                    return boards.get(i);
                }
            }
            return null;
        }

        boolean isNameTold(long name) {
            for (int i = 0; i < pieces.size(); i++) {
                if (pieces.get(i).name == name) {
                    return true;
                }
            }
            return boardNamed(name) != null;
        }

        void makeLays() {
            if (laysMade) {
                return;
            }
            laysMade = true;
            ArrayList<Lay> found = new ArrayList<Lay>();
            for (int p = 0; p < pieces.size(); p++) {
                for (int b = 0; b < boards.size(); b++) {
                    addLays(found, pieces.get(p), boards.get(b));
                }
            }
            lays = new Lay[found.size()];
            for (int i = 0; i < lays.length && i < found.size(); i++) {
                lays[i] = found.get(i);
            }
            for (Lay lay : lays) {
                lay.turned = turnedHalfRound(lay);
            }
        }

        private void addLays(ArrayList<Lay> found, Piece piece, Board board) {
            for (int y = 0; y < board.high; y++) {
                for (int x = 0; x < board.wide; x++) {
                    for (int turns = 0; turns < 4; turns++) {
                        int covered = piece.squaresOn(board, x, y, turns);
                        if (covered != 0 && (covered & jugs) == 0) {
                            Lay lay = new Lay(found.size(), piece, board, x, y, turns, covered);
                            lay.guard = apart ? board.withThoseBeside(covered) : covered;
                            found.add(lay);
                        }
                    }
                }
            }
        }

        private Lay turnedHalfRound(Lay lay) {
            int wanted = lay.board.turnedHalfRound(lay.squares);
            for (Lay other : lays) {
                if (other.piece == lay.piece && other.board == lay.board && other.squares == wanted) {
                    return other;
                }
            }
            return null;
        }

        Lay layNumbered(int number) {
            return number >= 0 && number < lays.length ? lays[number] : null;
        }

        Lay layAtPlace(int piece, int board, int x, int y, int turns) {
            for (Lay lay : lays) {
                if (lay.piece.number == piece && lay.board.number == board && lay.isAt(x, y, turns)) {
                    return lay;
                }
            }
            return null;
        }

        int countThatMay(int taken, int next) {
            int count = 0;
            for (Lay lay : lays) {
                if (lay.mayBe(taken, next)) {
                    count++;
                }
            }
            return count;
        }

        Lay thatMay(int taken, int next, int which) {
            int left = which;
            for (Lay lay : lays) {
                if (lay.mayBe(taken, next)) {
                    if (left == 0) {
                        return lay;
                    }
                    left--;
                }
            }
            return null;
        }

        int deadSquares(int taken) {
            int alive = 0;
            for (Lay lay : lays) {
                if (lay.hasRoom(taken)) {
                    alive |= lay.squares;
                }
            }
            return ((1 << squares) - 1) & ~(taken | jugs | alive);
        }

        int countSpoiled(int taken, Lay laid) {
            int count = 0;
            for (Lay lay : lays) {
                if (lay.hasRoom(taken) && !lay.hasRoom(taken | laid.squares)) {
                    count++;
                }
            }
            return count;
        }

        int countOpen(int taken, int square) {
            int count = 0;
            for (Lay lay : lays) {
                if (lay.hasRoom(taken) && (lay.squares >> square & 1) != 0) {
                    count++;
                }
            }
            return count;
        }

        boolean isHeap() {
            if (wins) {
                return false;
            }
            for (int i = 0; i < pieces.size(); i++) {
                if (pieces.get(i).owner != Piece.ANYONE) {
                    return false;
                }
            }
            return true;
        }

        boolean isSameTurned(Board board, int taken) {
            int jugsThere = jugs & board.allSquares();
            int takenThere = taken & board.allSquares();
            return board.turnedHalfRound(jugsThere) == jugsThere
                    && board.turnedHalfRound(takenThere) == takenThere;
        }

        private boolean areAllSameTurned(int taken) {
            for (int i = 0; i < boards.size(); i++) {
                if (!isSameTurned(boards.get(i), taken)) {
                    return false;
                }
            }
            return true;
        }

        int heldByAcross(int taken) {
            if (!isHeap() || !areAllSameTurned(taken)) {
                return 0;
            }
            if (canAnswerAllAcross(taken)) {
                return 2;
            }
            for (Lay lay : lays) {
                if (lay.hasRoom(taken) && lay.turned == lay && canAnswerAllAcross(taken | lay.squares)) {
                    return 1;
                }
            }
            return 0;
        }

        private boolean canAnswerAllAcross(int taken) {
            for (Lay lay : lays) {
                if (lay.hasRoom(taken) && (lay.turned == null || (lay.turned.squares & lay.guard) != 0)) {
                    return false;
                }
            }
            return true;
        }
    }

    /** What lies, the first laid first, with the seed that the drunk draws by. */
    private static final class Laid {
        private final Lay[] lays = new Lay[MOST_SQUARES];
        int count;
        int taken;
        int seed;

        void clear() {
            count = 0;
            taken = 0;
            seed = 0;
        }

        void copy(Laid other) {
            for (int i = 0; i < other.count && i < lays.length && i < other.lays.length; i++) {
                lays[i] = other.lays[i];
            }
            count = other.count;
            taken = other.taken;
            seed = other.seed;
        }

        Lay at(int i) {
            return i >= 0 && i < count && i < lays.length ? lays[i] : null;
        }

        Lay latest() {
            return at(count - 1);
        }

        int next() {
            return count & 1;
        }

        void add(Lay lay) {
            if (lay != null && count >= 0 && count < lays.length) {
                lays[count] = lay;
                count++;
                taken |= lay.squares;
            }
        }

        void dropLatest() {
            Lay lay = latest();
            if (lay != null) {
                count--;
                taken &= ~lay.squares;
            }
        }

        int draw() {
            seed = (75 * seed + 74) % SEEDS;
            return seed;
        }
    }

    /** What was ahead of the latest acts, in a ring, and the images. */
    private static final class Past {
        private static final int MOST_KEPT = 16;
        private static final int MOST_IMAGES = 3;

        private final Laid[] ring = new Laid[MOST_KEPT];
        private int top;
        int kept;
        private final Laid[] pictures = new Laid[MOST_IMAGES];
        int images;

        Past() {
            for (int i = 0; i < ring.length; i++) {
                ring[i] = new Laid();
            }
            for (int i = 0; i < pictures.length; i++) {
                pictures[i] = new Laid();
            }
        }

        void clear() {
            kept = 0;
            images = 0;
        }

        void keep(Laid laid) {
            if (top >= 0 && top < ring.length) {
                ring[top].copy(laid);
                top = top + 1 < ring.length ? top + 1 : 0;
                kept = Math.min(kept + 1, ring.length);
            }
        }

        boolean undoTo(Laid laid) {
            int latest = top > 0 ? top - 1 : ring.length - 1;
            if (kept <= 0 || latest < 0 || latest >= ring.length) {
                return false;
            }
            laid.copy(ring[latest]);
            top = latest;
            kept--;
            return true;
        }

        int addImage(Laid laid) {
            if (images < 0 || images >= pictures.length) {
                return NONE;
            }
            pictures[images].copy(laid);
            images++;
            return images - 1;
        }

        boolean backTo(int image, Laid laid) {
            if (image < 0 || image >= images || image >= pictures.length) {
                return false;
            }
            laid.copy(pictures[image]);
            kept = 0;
            return true;
        }
    }

    /**
     * What is worked out of a table's states, each once. A state is the squares that are taken and
     * who is next: all that follows hangs on these alone, not on which pieces lie where.
     */
    private static final class Outlook {
        static final int SOONEST = 0;
        static final int FEWEST = 1;
        static final int MOST = 2;
        static final int LOT = 3;

        private static final long MOST_WAYS = 1000000000000000000L;
        private static final int MILLION = 1000000;

        Table table;
        /** Changes with the table, so that what is known of an older one counts no more. */
        private int stamp;
        private final int[] known;
        private final boolean[] won;
        private final int[] soonest;
        private final int[] fewest;
        private final int[] most;
        private final int[] lot;
        private final long[] ways;
        private final int[] grundyKnown;
        private final int[] grundy;

        Outlook(int squares) {
            int sets = squares >= 0 && squares <= MOST_SQUARES ? 1 << squares : 0;
            known = new int[2 * sets];
            won = new boolean[2 * sets];
            soonest = new int[2 * sets];
            fewest = new int[2 * sets];
            most = new int[2 * sets];
            lot = new int[2 * sets];
            ways = new long[2 * sets];
            grundyKnown = new int[sets];
            grundy = new int[sets];
        }

        boolean hasRoomFor(Table wanted) {
            return grundy.length >= 1 << wanted.squares;
        }

        void turnTo(Table wanted) {
            table = wanted;
            stamp++;
        }

        boolean isWon(int taken, int next) {
            settle(this, taken, next, 0);
            int state = stateOf(taken, next);
            return state != NONE && won[state];
        }

        int measured(int measure, int taken, int next) {
            settle(this, taken, next, 0);
            int state = stateOf(taken, next);
            if (state == NONE) {
                return 0;
            }
            switch (measure) {
                case SOONEST: return soonest[state];
                case FEWEST: return fewest[state];
                case MOST: return most[state];
                default: return lot[state];
            }
        }

        long rowsOfLays(int taken, int next) {
            settle(this, taken, next, 0);
            int state = stateOf(taken, next);
            return state == NONE ? 0 : ways[state];
        }

        Lay firstWinning(int taken, int next) {
            if (table == null) {
                return null;
            }
            for (Lay lay : table.lays) {
                if (lay.mayBe(taken, next) && !isWon(taken | lay.squares, 1 - next)) {
                    return lay;
                }
            }
            return null;
        }

        int countWinning(int taken, int next) {
            if (table == null) {
                return 0;
            }
            int count = 0;
            for (Lay lay : table.lays) {
                if (lay.mayBe(taken, next) && !isWon(taken | lay.squares, 1 - next)) {
                    count++;
                }
            }
            return count;
        }

        int turningSquare(int taken, int next) {
            if (table == null) {
                return NO_LAY;
            }
            boolean now = isWon(taken, next);
            for (int square = 0; square < table.squares; square++) {
                int bit = 1 << square;
                if (((taken | table.jugs) & bit) == 0 && isWon(taken | bit, next) != now) {
                    return square;
                }
            }
            return NO_LAY;
        }

        private int stateOf(int taken, int next) {
            int state = 2 * taken + next;
            return table == null || state < 0 || state >= known.length ? NONE : state;
        }

        private static void settle(Outlook all, int taken, int next, int depth) {
            int state = all.stateOf(taken, next);
            if (state == NONE || all.known[state] == all.stamp || depth > MOST_SQUARES) {
                return;
            }
            all.clear(state);
            int count = 0;
            long sum = 0;
            for (Lay lay : all.table.lays) {
                if (!lay.mayBe(taken, next)) {
                    continue;
                }
                settle(all, taken | lay.squares, 1 - next, depth + 1);
                int after = all.stateOf(taken | lay.squares, 1 - next);
                if (after != NONE) {
                    all.reckon(state, after);
                    sum += MILLION + all.lot[after];
                    count++;
                }
            }
            all.close(state, count, sum);
        }

        private void clear(int state) {
            won[state] = false;
            soonest[state] = 0;
            fewest[state] = MOST_SQUARES;
            most[state] = 0;
            ways[state] = 0;
        }

        private void reckon(int state, int after) {
            reckonWinner(state, !won[after], soonest[after] + 1);
            fewest[state] = Math.min(fewest[state], fewest[after] + 1);
            most[state] = Math.max(most[state], most[after] + 1);
            ways[state] = Math.min(ways[state] + ways[after], MOST_WAYS);
        }

        private void reckonWinner(int state, boolean wins, int length) {
            if (wins && !won[state]) {
                won[state] = true;
                soonest[state] = length;
            } else if (wins) {
                soonest[state] = Math.min(soonest[state], length);
            } else if (!won[state]) {
                soonest[state] = Math.max(soonest[state], length);
            }
        }

        private void close(int state, int count, long sum) {
            lot[state] = count > 0 ? (int) (sum / count) : 0;
            if (count == 0) {
                won[state] = table.wins;
                fewest[state] = 0;
                ways[state] = 1;
            }
            known[state] = stamp;
        }

        /** Boards are heaps side by side: no lay of one touches another. */
        int grundyOfAll(int taken) {
            if (table == null) {
                return 0;
            }
            int all = 0;
            for (int i = 0; i < table.boards.size(); i++) {
                all ^= grundyOf(table.boards.get(i), taken);
            }
            return all;
        }

        int grundyOf(Board board, int taken) {
            if (table == null) {
                return 0;
            }
            int others = ((1 << table.squares) - 1) & ~board.allSquares();
            settleGrundy(this, taken | others, 0);
            return grundyAt(taken | others);
        }

        private int grundyAt(int taken) {
            return taken >= 0 && taken < grundy.length ? grundy[taken] : 0;
        }

        private static void settleGrundy(Outlook all, int taken, int depth) {
            if (all.table == null || taken < 0 || taken >= all.grundy.length || depth > MOST_SQUARES
                    || all.grundyKnown[taken] == all.stamp) {
                return;
            }
            int seen = 0;
            for (Lay lay : all.table.lays) {
                if (lay.hasRoom(taken)) {
                    settleGrundy(all, taken | lay.squares, depth + 1);
                    seen |= 1 << all.grundyAt(taken | lay.squares);
                }
            }
            all.grundy[taken] = Integer.numberOfTrailingZeros(~seen);
            all.grundyKnown[taken] = all.stamp;
        }
    }

    /** Rows of squares as heaps, for each number that is taken side by side. */
    private static final class Rows {
        private static final int LONGEST = 200;
        private static final int WIDEST = 9;
        private static final int LONGEST_PERIOD = 60;
        private static final int LATEST_START = 100;
        /** A row has at most 200 lays, so no size and no two sizes together come to 256. */
        private static final int SIZES = 256;

        private final int[][] sizes = new int[WIDEST + 1][LONGEST + 1];
        private final boolean[] made = new boolean[WIDEST + 1];
        private final int[] nothing = new int[0];
        private final int[] seen = new int[SIZES];
        private int stamp;

        static boolean isLength(int n) {
            return n >= 0 && n <= LONGEST;
        }

        static boolean isWidth(int k) {
            return k >= 1 && k <= WIDEST;
        }

        int sizeOf(int n, int k) {
            int[] row = rowOf(k);
            return n >= 0 && n < row.length ? row[n] : 0;
        }

        private int[] rowOf(int k) {
            if (!isWidth(k) || k >= sizes.length || k >= made.length) {
                return nothing;
            }
            int[] row = sizes[k];
            if (!made[k]) {
                made[k] = true;
                for (int n = 0; n < row.length; n++) {
                    row[n] = leastMissing(row, n, k);
                }
            }
            return row;
        }

        private int leastMissing(int[] row, int n, int k) {
            stamp++;
            for (int left = 0; left <= n - k; left++) {
                int size = behind(row, left, n - k - left);
                if (size >= 0 && size < seen.length) {
                    seen[size] = stamp;
                }
            }
            for (int size = 0; size < seen.length; size++) {
                if (seen[size] != stamp) {
                    return size;
                }
            }
            return 0;
        }

        private static int behind(int[] row, int left, int right) {
            if (left < 0 || left >= row.length || right < 0 || right >= row.length) {
                return 0;
            }
            return row[left] ^ row[right];
        }

        int firstMaking(int n, int k, int size) {
            int[] row = rowOf(k);
            for (int left = 0; left <= n - k; left++) {
                if (behind(row, left, n - k - left) == size) {
                    return left;
                }
            }
            return NO_LAY;
        }

        int periodOf(int k) {
            for (int period = 1; period <= LONGEST_PERIOD; period++) {
                if (startOf(k, period) <= LATEST_START) {
                    return period;
                }
            }
            return NONE;
        }

        int startOf(int k, int period) {
            int[] row = rowOf(k);
            int start = 0;
            for (int n = 0; n + period < row.length; n++) {
                if (behind(row, n, n + period) != 0) {
                    start = n + 1;
                }
            }
            return start;
        }
    }

    /** The players by rules; a walk of their own keeps what is now untouched. */
    private static final class Players {
        private static final int MISER = 1;
        private static final int LANDLORD = 2;
        private static final int DRUNK = 3;
        private static final int WISE = 4;

        private final Laid walk = new Laid();

        Lay wouldLay(int player, Outlook outlook, Laid laid) {
            walk.copy(laid);
            return choose(player, outlook, walk);
        }

        int lengthOfMatch(int player, int other, Outlook outlook, Laid laid) {
            walk.copy(laid);
            for (int length = 0; length < MOST_SQUARES; length++) {
                Lay lay = choose((length & 1) == 0 ? player : other, outlook, walk);
                if (lay == null) {
                    return length;
                }
                walk.add(lay);
            }
            return MOST_SQUARES;
        }

        /** Null if it is over; the drunk's draw changes the seed of what lies. */
        Lay choose(int player, Outlook outlook, Laid laid) {
            Table table = outlook.table;
            Lay first = table == null ? null : table.thatMay(laid.taken, laid.next(), 0);
            if (first == null) {
                return null;
            }
            switch (player) {
                case MISER: return barest(table, laid);
                case LANDLORD: return acrossLatest(laid, first);
                case DRUNK: return drawn(table, laid);
                case WISE: return orElse(outlook.firstWinning(laid.taken, laid.next()), first);
                default: return first;
            }
        }

        private static Lay barest(Table table, Laid laid) {
            Lay barest = null;
            int fewest = 0;
            for (Lay lay : table.lays) {
                if (lay.mayBe(laid.taken, laid.next())) {
                    int left = table.countThatMay(laid.taken | lay.squares, 1 - laid.next());
                    if (barest == null || left < fewest) {
                        barest = lay;
                        fewest = left;
                    }
                }
            }
            return barest;
        }

        private static Lay acrossLatest(Laid laid, Lay first) {
            Lay latest = laid.latest();
            Lay across = latest == null ? null : latest.turned;
            return across != null && across.mayBe(laid.taken, laid.next()) ? across : first;
        }

        private static Lay drawn(Table table, Laid laid) {
            int count = table.countThatMay(laid.taken, laid.next());
            return count > 0 ? table.thatMay(laid.taken, laid.next(), laid.draw() % count) : null;
        }

        private static Lay orElse(Lay lay, Lay other) {
            return lay == null ? other : lay;
        }
    }
}
