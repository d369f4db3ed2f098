import java.util.Arrays;

/** An empire that is a jigsaw with holes. What each call promises stands in ../shared/DOC.md. */
public final class JigsawHole {
    public static final int NONE = -1;

    private static final int NEVER = -2;
    private static final int NO_KNOB = -100;

    private static final int WIDE = 6;
    private static final int HIGH = 5;
    private static final int CELLS = 30;
    private static final int SIDES = 4;
    private static final int LANDS = 5;
    private static final int HOLE = 9;
    private static final int MOST_SPARES = 5;
    private static final int MOST_KNOBS = 40;
    private static final int FARTHEST = 3;
    private static final int MASKS = 64;

    // What is in a CELL; 0 and more is a SPARE that is PRESSED: 10 * the SPARE + its turns.
    private static final int PIECE = -1;
    private static final int NOTHING = -2;

    private static final int MOST_DAYS = 60;
    private static final int MOST_AHEAD = 200;
    private static final int MOST_SEEDS = 20;
    private static final int MOST_UNDONE = 40;
    private static final int SLOTS = 3;
    private static final int MOST_TOLD = 20;

    private static final int MOST_BYTES = 2000;
    private static final int FED_BYTES = 20;
    private static final int MOST_TOKENS = 400;
    private static final int LONGEST_NAME = 8;
    private static final int LONGEST_INT = 4;
    private static final int MOST_IFS = 4;
    private static final int MOST_DEPTH = 6;

    private static final int SYNTAX = 1;
    private static final int ROOM = 2;
    private static final int TWICE = 3;
    private static final int WRONG = 5;
    private static final int TABLE = 6;

    // Kinds of TOKENS: a SIGN's kind is its byte, a word's kind is FIRST_WORD + its number in WORDS.
    private static final int END = 0;
    private static final int BAD = 1;
    private static final int NAME = 2;
    private static final int INT = 3;
    private static final int FIRST_WORD = 100;
    private static final int ROW_WORD = 100;
    private static final int KNOB_WORD = 101;
    private static final int SPARE_WORD = 102;
    private static final int WAYS_WORD = 103;
    private static final int FALLS_WORD = 106;
    private static final int KNOCKS_WORD = 107;
    private static final int SEED_WORD = 108;
    private static final int IF_WORD = 109;
    private static final int THEN_WORD = 110;
    private static final int ELSE_WORD = 111;
    private static final int ACROSS_WORD = 112;
    private static final int SIDE_WORD = 120;
    private static final String WORDS =
        "row knob spare ways taxes wet falls knocks seed if then else across down land joined day same size parts side ";
    private static final String SIGNS = ";=+-*/<()";

    // LAWS and VARS, in the order in which WORDS has them.
    private static final int LAWS = 4;
    private static final int WAYS = 0;
    private static final int TAXES = 1;
    private static final int WET = 2;
    private static final int FALLS = 3;
    private static final int VARS = 9;
    private static final int ACROSS = 0;
    private static final int DOWN = 1;
    private static final int LAND = 2;
    private static final int JOINED = 3;
    private static final int DAY = 4;
    private static final int SAME = 5;
    private static final int SIZE = 6;
    private static final int PARTS = 7;
    private static final int SIDE = 8;

    // The code of LAWS: below VAR_CODE an INT, then VARS, then the four SIGNS of reckoning by their
    // bytes and LAW_END, then jumps, taken unless the one of the last two values is less than the other.
    private static final int VAR_CODE = 10000;
    private static final int SIGN_CODE = 20000;
    private static final int LAW_END = 20000;
    private static final int JUMP_CODE = 30000;
    private static final int MOST_CODE = 420;
    private static final int MOST_VALUES = 32;

    private final Tape tape = new Tape();
    private final Reader reader = new Reader(tape);
    private final Table table = new Table();
    private final State now = new State();
    private final State would = new State();
    private final Board board = new Board(table);
    private final Rules rules = new Rules(table, board);
    private final Paths paths = new Paths(table, board, rules);
    private final Calendar calendar = new Calendar(table, board, rules);
    private final Past past = new Past();
    private final Clues clues = new Clues(table);

    public JigsawHole() {
    }

    public int feed(int a, int b, int c, int d, int e) {
        if (tape.length > MOST_BYTES - FED_BYTES) {
            return NONE;
        }
        tape.addFour(a);
        tape.addFour(b);
        tape.addFour(c);
        tape.addFour(d);
        tape.addFour(e);
        return tape.length;
    }

    public int back(int n) {
        if (n < 0 || n > tape.length) {
            return NONE;
        }
        tape.length -= n;
        return tape.length;
    }

    public int read() {
        tape.scan();
        int fault = reader.readText();
        tape.length = 0;
        if (fault == 0) {
            table.copyFrom(reader.draft);
            now.clear();
            past.clear();
            clues.told = 0;
        }
        return fault;
    }

    public int place() {
        return reader.faultPlace;
    }

    public int cell(int x, int y, int what) {
        int at = table.cellAt(x, y);
        if (at == NONE) {
            return NONE;
        }
        switch (what) {
            case 0:
                return table.lands[at];
            case 1:
                return now.lies(at) ? 1 : 0;
            case 2:
                return board.friends(now, at);
            case 3:
                return now.lies(at) ? rules.falls(now, at) : 0;
            case 4:
                return now.within[at] >= 0 ? now.within[at] : NEVER;
            default:
                return NONE;
        }
    }

    public int knob(int x, int y, int side) {
        int at = table.cellAt(x, y);
        if (at == NONE || !isSide(side)) {
            return NO_KNOB;
        }
        return board.hasKnobs(now, at) ? board.knobOf(now.within[at], at, side) : NO_KNOB;
    }

    public int spare(int spare, int t, int side) {
        if (!table.hasSpare(spare) || !isTurn(t) || !isSide(side)) {
            return NO_KNOB;
        }
        return table.spareKnob(spare, t, side);
    }

    public int land(int land, int what) {
        if (!isLand(land)) {
            return NONE;
        }
        switch (what) {
            case 0:
                return table.piecesOf(land);
            case 1:
                return board.sizeOf(now, land);
            case 2:
                return board.partsOf(now, land);
            case 3:
                return rules.taxes(now, land);
            default:
                return NONE;
        }
    }

    public boolean lay(int x, int y) {
        int at = table.pieceAt(x, y);
        if (at == NONE || now.lies(at) || !rules.isWet(now.day) || board.clashes(now, at, PIECE) != 0) {
            return false;
        }
        past.keep(now);
        now.within[at] = PIECE;
        return true;
    }

    public boolean take(int x, int y) {
        int at = table.cellAt(x, y);
        if (at == NONE || !now.lies(at) || !rules.isWet(now.day)) {
            return false;
        }
        past.keep(now);
        now.within[at] = NOTHING;
        return true;
    }

    public boolean press(int spare, int x, int y, int t) {
        int at = table.holeAt(x, y);
        if (at == NONE || !table.hasSpare(spare) || !isTurn(t)) {
            return false;
        }
        int what = 10 * spare + t;
        if (now.lies(at) || now.isPressed(spare) || !rules.isWet(now.day) || board.clashes(now, at, what) != 0) {
            return false;
        }
        past.keep(now);
        now.within[at] = what;
        return true;
    }

    public int days(int n) {
        if (n < 0 || n > MOST_DAYS) {
            return NONE;
        }
        if (n > 0) {
            past.keep(now);
            calendar.pass(now, n);
        }
        return now.day;
    }

    public boolean undo() {
        return past.goBack(now);
    }

    public int clash(int x, int y) {
        int at = table.cellAt(x, y);
        if (at == NONE || !board.hasKnobs(now, at)) {
            return NONE;
        }
        return board.clashes(now, at, now.within[at]);
    }

    public int called(int x, int y, int side) {
        int at = table.holeAt(x, y);
        return at == NONE || !isSide(side) ? NO_KNOB : table.calledOver(at, side);
    }

    public int spares(int x, int y, int what) {
        int at = table.holeAt(x, y);
        if (at == NONE || what < 0 || what > 1) {
            return NONE;
        }
        return what == 0 ? table.sparesFor(at) : table.firstSpareFor(at);
    }

    public int homes(int spare) {
        return table.hasSpare(spare) ? table.homesOf(spare) : NONE;
    }

    public int free() {
        int found = 0;
        for (int at = 0; at < CELLS; at++) {
            if (table.isPiece(at) && !now.lies(at) && board.clashes(now, at, PIECE) == 0) {
                found++;
            }
        }
        return found;
    }

    public int border(int land, int other) {
        return isLand(land) && isLand(other) && land != other ? board.borderOf(now, land, other) : NONE;
    }

    public int richest(int what) {
        if (what < 0 || what > 1) {
            return NONE;
        }
        int which = 0;
        int highest = 0;
        for (int land = 0; land < LANDS; land++) {
            int taxes = rules.taxes(now, land);
            if (taxes > highest) {
                which = land;
                highest = taxes;
            }
        }
        return what == 0 ? which : highest;
    }

    public int step(int x, int y, int side) {
        int at = table.cellAt(x, y);
        if (at == NONE || !isSide(side)) {
            return NONE;
        }
        int to = table.beside(at, side);
        return to == NONE ? NONE : rules.ways(now.day, at, to, side);
    }

    public int far(int x, int y, int toX, int toY) {
        int from = table.cellAt(x, y);
        int to = table.cellAt(toX, toY);
        if (from == NONE || to == NONE) {
            return NONE;
        }
        return now.lies(from) && now.lies(to) ? paths.leastWays(now, from, to) : NEVER;
    }

    public int more(int x, int y, int toX, int toY) {
        int from = table.pieceAt(x, y);
        int to = table.pieceAt(toX, toY);
        return from == NONE || to == NONE ? NONE : paths.fewestMore(now, from, to);
    }

    public int most() {
        return paths.mostTogether();
    }

    public int joined(int x, int y) {
        int at = table.cellAt(x, y);
        if (at == NONE) {
            return NONE;
        }
        return now.lies(at) ? Integer.bitCount(board.group(now, at, NONE)) : NEVER;
    }

    public int loose() {
        int found = 0;
        for (int at = 0; at < CELLS; at++) {
            if (now.lies(at) && board.friends(now, at) == 0) {
                found++;
            }
        }
        return found;
    }

    public int empire() {
        int largest = 0;
        for (int at = 0; at < CELLS; at++) {
            if (now.lies(at)) {
                largest = Math.max(largest, Integer.bitCount(board.group(now, at, NONE)));
            }
        }
        return largest;
    }

    public int liesIn(int n) {
        if (n < 0 || n > MOST_DAYS) {
            return NONE;
        }
        would.copyFrom(now);
        calendar.pass(would, n);
        return would.lying();
    }

    public int taxIn(int n) {
        if (n < 0 || n > MOST_DAYS) {
            return NONE;
        }
        would.copyFrom(now);
        calendar.pass(would, n);
        return would.paid - now.paid;
    }

    public int stays(int x, int y) {
        int at = table.cellAt(x, y);
        if (at == NONE) {
            return NONE;
        }
        would.copyFrom(now);
        return now.lies(at) ? calendar.daysUntilTaken(would, at) : NEVER;
    }

    public int wetter() {
        for (int n = 0; n <= MOST_AHEAD; n++) {
            if (rules.isWet(now.day + n)) {
                return n;
            }
        }
        return NEVER;
    }

    public int year(int x, int y, int toX, int toY, int n, int s) {
        int from = table.cellAt(x, y);
        int to = table.cellAt(toX, toY);
        if (from == NONE || to == NONE || n < 0 || n > MOST_DAYS || s < 1 || s > MOST_SEEDS) {
            return NONE;
        }
        int found = 0;
        for (int i = 0; i < s; i++) {
            would.copyFrom(now);
            if (calendar.joinedAfter(would, from, to, n, table.seed + i)) {
                found++;
            }
        }
        return found;
    }

    public int tell(int side, int knob) {
        if (!isSide(side) || knob < -FARTHEST || knob > FARTHEST) {
            return NONE;
        }
        return clues.add(side, knob);
    }

    public int forget() {
        int forgotten = clues.told;
        clues.told = 0;
        return forgotten;
    }

    public int missing(int k) {
        return clues.knows(k) ? clues.fitting(k) : NONE;
    }

    public int sure(int k) {
        return clues.knows(k) ? clues.onlySpare(k) : NONE;
    }

    public int ask(int k) {
        return clues.knows(k) ? clues.bestSide(k) : NONE;
    }

    public boolean hold(int slot) {
        if (slot < 0 || slot >= SLOTS) {
            return false;
        }
        past.fill(slot, now);
        return true;
    }

    public boolean restore(int slot) {
        if (slot < 0 || slot >= SLOTS) {
            return false;
        }
        return past.goOnFrom(slot, now);
    }

    public int count(int what) {
        switch (what) {
            case 0:
                return table.across;
            case 1:
                return table.down;
            case 2:
                return table.spareCount;
            case 3:
                return now.day;
            case 4:
                return now.lying();
            case 5:
                return now.paid;
            case 6:
                return rules.isWet(now.day) ? 1 : 0;
            case 7:
                return calendar.isKnock(table.seed, now.day) ? 1 : 0;
            case 8:
                return table.holes();
            case 9:
                return tape.length;
            case 10:
                return past.undoable;
            case 11:
                return clues.told;
            case 12:
                return Integer.bitCount(past.filled);
            case 13:
                return now.took;
            case 14:
                return now.pressedSpares();
            case 15:
                return board.lyingLands(now);
            default:
                return NONE;
        }
    }

    private static boolean isSide(int side) {
        return side >= 0 && side < SIDES;
    }

    private static boolean isTurn(int t) {
        return t >= 0 && t < SIDES;
    }

    private static boolean isLand(int land) {
        return land >= 0 && land < LANDS;
    }

    private static int opposite(int side) {
        return (side + 2) % SIDES;
    }

    /** The bytes that were fed, and the TOKENS that the latest scan found in them. */
    private static final class Tape {
        private final byte[] bytes = new byte[MOST_BYTES];
        private int length;
        private final int[] kinds = new int[MOST_TOKENS + 1];
        private final int[] places = new int[MOST_TOKENS + 1];
        // Of an INT its number, of letters how many they are.
        private final int[] values = new int[MOST_TOKENS + 1];

        void addFour(int four) {
            for (int shift = 24; shift >= 0 && length < MOST_BYTES; shift -= 8) {
                bytes[length] = (byte) (four >>> shift);
                length++;
            }
        }

        /** Ends at the text's end, at what is no TOKEN, or with the 401st: no reader goes beyond those. */
        void scan() {
            int at = 0;
            for (int token = 0; token <= MOST_TOKENS; token++) {
                at = skipBlanks(at);
                places[token] = at;
                at = scanToken(token, at);
                if (kinds[token] == END || kinds[token] == BAD) {
                    return;
                }
            }
        }

        int letter(int token, int i) {
            int at = places[token] + i;
            return at < length ? bytes[at] : 0;
        }

        boolean sameLetters(int token, int other) {
            boolean same = values[token] == values[other];
            for (int i = 0; same && i < values[token]; i++) {
                same = letter(token, i) == letter(other, i);
            }
            return same;
        }

        private int skipBlanks(int from) {
            int at = from;
            while (at < length && isBlank(bytes[at])) {
                at++;
            }
            return at;
        }

        /** The place behind the TOKEN. */
        private int scanToken(int token, int at) {
            if (at >= length) {
                kinds[token] = END;
                return at;
            }
            if (isLetter(bytes[at])) {
                return scanLetters(token, at);
            }
            if (isDigit(bytes[at])) {
                return scanDigits(token, at);
            }
            kinds[token] = isSign(bytes[at]) ? bytes[at] : BAD;
            return at + 1;
        }

        private int scanLetters(int token, int from) {
            int at = from;
            while (at < length && isLetter(bytes[at])) {
                at++;
            }
            values[token] = at - from;
            kinds[token] = at - from > LONGEST_NAME ? BAD : kindOfLetters(from, at);
            return at;
        }

        private int scanDigits(int token, int from) {
            int at = from;
            int number = 0;
            while (at < length && isDigit(bytes[at])) {
                number = 10 * number + bytes[at] - '0';
                at++;
            }
            values[token] = number;
            kinds[token] = at - from > LONGEST_INT ? BAD : INT;
            return at;
        }

        private int kindOfLetters(int from, int to) {
            int word = 0;
            int at = from;
            boolean same = true;
            for (int i = 0; i < WORDS.length(); i++) {
                char sign = WORDS.charAt(i);
                if (sign != ' ') {
                    same = same && at < to && bytes[at] == sign;
                    at++;
                } else if (same && at == to) {
                    return FIRST_WORD + word;
                } else {
                    word++;
                    at = from;
                    same = true;
                }
            }
            return NAME;
        }

        private static boolean isBlank(int sign) {
            return sign == 9 || sign == 10 || sign == 13 || sign == 32;
        }

        private static boolean isLetter(int sign) {
            return sign >= 'a' && sign <= 'z';
        }

        private static boolean isDigit(int sign) {
            return sign >= '0' && sign <= '9';
        }

        private static boolean isSign(int sign) {
            boolean found = false;
            for (int i = 0; i < SIGNS.length() && !found; i++) {
                found = SIGNS.charAt(i) == sign;
            }
            return found;
        }
    }

    /** Reads the TOKENS of a tape into a draft, which is whole only if there was no FAULT. */
    private static final class Reader {
        private final Tape tape;
        private final Table draft = new Table();
        private int at;
        private int fault;
        private int faultPlace = NONE;
        // TWICE, WRONG and TABLE count only if there is no SYNTAX and no ROOM in all of the text.
        private int slight;
        private int slightPlace;
        private int knobsTold;
        private int cellsTold;
        private final int[] spareTokens = new int[MOST_SPARES];

        Reader(Tape tape) {
            this.tape = tape;
        }

        int readText() {
            draft.clear();
            at = 0;
            fault = 0;
            faultPlace = NONE;
            slight = 0;
            slightPlace = NONE;
            knobsTold = 0;
            cellsTold = 0;
            for (int tells = 0; tells <= MOST_TOKENS && fault == 0 && kind() != END; tells++) {
                int kind = kind();
                if (kind == ROW_WORD) {
                    readRow();
                } else if (kind == KNOB_WORD) {
                    readKnob();
                } else if (kind == SPARE_WORD) {
                    readSpare();
                } else if (kind >= WAYS_WORD && kind <= FALLS_WORD) {
                    readLaw(kind);
                } else if (kind == KNOCKS_WORD) {
                    draft.knocks = readOneNumber(kind, 100);
                } else if (kind == SEED_WORD) {
                    draft.seed = readOneNumber(kind, 9999);
                } else {
                    fail(SYNTAX);
                }
            }
            if (knobsAstray()) {
                mark(TABLE, tape.length);
            }
            if (fault == 0) {
                fault = slight;
                faultPlace = slightPlace;
            }
            return fault;
        }

        private int kind() {
            return tape.kinds[at];
        }

        private boolean accept(int wanted) {
            if (fault != 0) {
                return false;
            }
            if (kind() != wanted) {
                fail(SYNTAX);
            } else if (at >= MOST_TOKENS) {
                fail(ROOM);
            } else {
                at++;
            }
            return fault == 0;
        }

        private void fail(int number) {
            if (fault == 0) {
                fault = number;
                faultPlace = tape.places[at];
            }
        }

        /** Texts are read from the left, so that the first one marked is the first by its place. */
        private void mark(int number, int place) {
            if (slight == 0) {
                slight = number;
                slightPlace = place;
            }
        }

        private void readRow() {
            if (draft.down >= HIGH) {
                fail(ROOM);
                return;
            }
            accept(ROW_WORD);
            int name = at;
            if (accept(NAME) && accept(';')) {
                addRow(name);
            }
        }

        private void addRow(int token) {
            int length = tape.values[token];
            if (draft.down == 0) {
                draft.across = length;
            }
            boolean good = length == draft.across && length <= WIDE;
            for (int x = 0; good && x < length; x++) {
                int letter = tape.letter(token, x);
                good = letter == 'o' || letter >= 'a' && letter < 'a' + LANDS;
                draft.lands[draft.down * WIDE + x] = letter == 'o' ? HOLE : letter - 'a';
            }
            if (!good) {
                mark(TABLE, tape.places[token]);
            }
            draft.down++;
        }

        private void readKnob() {
            if (knobsTold >= MOST_KNOBS) {
                fail(ROOM);
                return;
            }
            knobsTold++;
            accept(KNOB_WORD);
            int x = number(WIDE - 1);
            int y = number(HIGH - 1);
            int side = number(SIDES - 1);
            int knob = signedNumber();
            if (accept(';')) {
                int cell = y * WIDE + x;
                draft.knobs[cell * SIDES + side] = knob;
                cellsTold |= 1 << cell;
            }
        }

        private void readSpare() {
            if (draft.spareCount >= MOST_SPARES) {
                fail(ROOM);
                return;
            }
            accept(SPARE_WORD);
            int name = at;
            if (accept(NAME)) {
                addSpareName(name);
                for (int side = 0; side < SIDES; side++) {
                    draft.spareKnobs[draft.spareCount * SIDES + side] = signedNumber();
                }
                draft.spareCount++;
            }
            accept(';');
        }

        private void addSpareName(int token) {
            for (int spare = 0; spare < draft.spareCount; spare++) {
                if (tape.sameLetters(token, spareTokens[spare])) {
                    mark(TWICE, tape.places[token]);
                }
            }
            spareTokens[draft.spareCount] = token;
        }

        private int readOneNumber(int word, int most) {
            accept(word);
            int number = number(most);
            accept(';');
            return number;
        }

        /** 0 where it is none that may stand here. */
        private int number(int most) {
            int token = at;
            if (!accept(INT)) {
                return 0;
            }
            if (tape.values[token] > most) {
                mark(WRONG, tape.places[token]);
                return 0;
            }
            return tape.values[token];
        }

        private int signedNumber() {
            if (kind() != '-') {
                return number(FARTHEST);
            }
            accept('-');
            return -number(FARTHEST);
        }

        private void readLaw(int word) {
            Laws laws = draft.laws;
            int start = laws.size;
            accept(word);
            accept('=');
            for (int ifs = 0; ifs <= MOST_IFS && fault == 0 && kind() == IF_WORD; ifs++) {
                if (ifs == MOST_IFS) {
                    fail(ROOM);
                }
                accept(IF_WORD);
                readSum(0);
                accept('<');
                readSum(0);
                accept(THEN_WORD);
                int jump = laws.size;
                laws.emit(JUMP_CODE);
                readSum(0);
                accept(ELSE_WORD);
                laws.emit(LAW_END);
                laws.aim(jump);
            }
            readSum(0);
            accept(';');
            laws.emit(LAW_END);
            laws.starts[word - WAYS_WORD] = start;
        }

        private void readSum(int depth) {
            readProduct(depth);
            for (int i = 0; i < MOST_TOKENS && fault == 0 && (kind() == '+' || kind() == '-'); i++) {
                int sign = kind();
                accept(sign);
                readProduct(depth);
                draft.laws.emit(SIGN_CODE + sign);
            }
        }

        private void readProduct(int depth) {
            readUnit(depth);
            for (int i = 0; i < MOST_TOKENS && fault == 0 && (kind() == '*' || kind() == '/'); i++) {
                int sign = kind();
                accept(sign);
                readUnit(depth);
                draft.laws.emit(SIGN_CODE + sign);
            }
        }

        private void readUnit(int depth) {
            int token = at;
            int kind = kind();
            if (kind == INT) {
                accept(INT);
                draft.laws.emit(tape.values[token]);
            } else if (kind >= ACROSS_WORD && kind <= SIDE_WORD) {
                accept(kind);
                draft.laws.emit(VAR_CODE + kind - ACROSS_WORD);
            } else if (kind != '(') {
                fail(SYNTAX);
            } else if (depth >= MOST_DEPTH) {
                fail(ROOM);
            } else if (accept('(')) {
                readSum(depth + 1);
                accept(')');
            }
        }

        private boolean knobsAstray() {
            boolean astray = false;
            for (int cell = 0; cell < CELLS && !astray; cell++) {
                astray = (cellsTold >> cell & 1) == 1 && !draft.isPiece(cell);
            }
            return astray;
        }
    }

    /** LAWS as code for a small machine with a stack: an E leaves one value on it. */
    private static final class Laws {
        private final int[] code = new int[MOST_CODE];
        private int size;
        private final int[] starts = new int[LAWS];
        private final int[] vars = new int[VARS];
        private final int[] stack = new int[MOST_VALUES];

        /** As if none was told. */
        void clear() {
            size = 0;
            setConstant(WAYS, 1);
            setConstant(TAXES, VAR_CODE + SIZE);
            setConstant(WET, 1);
            setConstant(FALLS, 50);
        }

        void copyFrom(Laws other) {
            System.arraycopy(other.code, 0, code, 0, other.size);
            System.arraycopy(other.starts, 0, starts, 0, LAWS);
            size = other.size;
        }

        private void setConstant(int law, int word) {
            starts[law] = size;
            emit(word);
            emit(LAW_END);
        }

        /** A TOKEN emits one word at most, so that the code has room for all of a text's laws. */
        void emit(int word) {
            if (size < MOST_CODE) {
                code[size] = word;
                size++;
            }
        }

        void aim(int jump) {
            if (jump < MOST_CODE) {
                code[jump] = JUMP_CODE + size;
            }
        }

        void setDayAlone(int day) {
            Arrays.fill(vars, 0);
            vars[DAY] = day;
        }

        int value(int law) {
            int top = 0;
            int at = starts[law];
            for (int steps = 0; steps < MOST_CODE && at < size; steps++) {
                int word = code[at];
                at++;
                if (word < SIGN_CODE) {
                    if (top >= MOST_VALUES) {
                        return 0;
                    }
                    stack[top] = word < VAR_CODE ? word : vars[word - VAR_CODE];
                    top++;
                } else if (word == LAW_END) {
                    return top < 1 ? 0 : stack[top - 1];
                } else if (top < 2) {
                    return 0;
                } else {
                    int left = stack[top - 2];
                    int right = stack[top - 1];
                    if (word >= JUMP_CODE) {
                        at = left < right ? at : word - JUMP_CODE;
                        top -= 2;
                    } else if (right == 0 && word == SIGN_CODE + '/') {
                        return 0;
                    } else {
                        stack[top - 2] = reckon(left, word - SIGN_CODE, right);
                        top--;
                    }
                }
            }
            return 0;
        }

        private static int reckon(int left, int sign, int right) {
            switch (sign) {
                case '+':
                    return left + right;
                case '-':
                    return left - right;
                case '*':
                    return left * right;
                default:
                    return right == 0 ? 0 : left / right;
            }
        }
    }

    /** What a text tells. A CELL is known by WIDE * Y + X. */
    private static final class Table {
        private int across;
        private int down;
        private int spareCount;
        private int knocks;
        private int seed;
        private final int[] lands = new int[CELLS];
        private final int[] knobs = new int[CELLS * SIDES];
        private final int[] spareKnobs = new int[MOST_SPARES * SIDES];
        private final Laws laws = new Laws();

        Table() {
            clear();
        }

        void clear() {
            across = 0;
            down = 0;
            spareCount = 0;
            knocks = 0;
            seed = 0;
            Arrays.fill(knobs, 0);
            laws.clear();
        }

        void copyFrom(Table other) {
            across = other.across;
            down = other.down;
            spareCount = other.spareCount;
            knocks = other.knocks;
            seed = other.seed;
            System.arraycopy(other.lands, 0, lands, 0, lands.length);
            System.arraycopy(other.knobs, 0, knobs, 0, knobs.length);
            System.arraycopy(other.spareKnobs, 0, spareKnobs, 0, spareKnobs.length);
            laws.copyFrom(other.laws);
        }

        int cellAt(int x, int y) {
            return x < 0 || y < 0 || x >= across || y >= down ? NONE : y * WIDE + x;
        }

        int pieceAt(int x, int y) {
            int at = cellAt(x, y);
            return at != NONE && lands[at] != HOLE ? at : NONE;
        }

        int holeAt(int x, int y) {
            int at = cellAt(x, y);
            return at != NONE && lands[at] == HOLE ? at : NONE;
        }

        boolean isPiece(int at) {
            return at % WIDE < across && at / WIDE < down && lands[at] != HOLE;
        }

        boolean isHole(int at) {
            return at % WIDE < across && at / WIDE < down && lands[at] == HOLE;
        }

        int beside(int at, int side) {
            int x = at % WIDE;
            int y = at / WIDE;
            switch (side) {
                case 0:
                    return y > 0 ? at - WIDE : NONE;
                case 1:
                    return x < across - 1 ? at + 1 : NONE;
                case 2:
                    return y < down - 1 ? at + WIDE : NONE;
                default:
                    return x > 0 ? at - 1 : NONE;
            }
        }

        /** Two pieces, LYING or not. */
        boolean piecesFit(int at, int side) {
            int next = beside(at, side);
            return next != NONE && isPiece(at) && isPiece(next)
                && knobs[at * SIDES + side] + knobs[next * SIDES + opposite(side)] == 0;
        }

        int piecesOf(int land) {
            int found = 0;
            for (int at = 0; at < CELLS; at++) {
                if (isPiece(at) && lands[at] == land) {
                    found++;
                }
            }
            return found;
        }

        int holes() {
            int found = 0;
            for (int at = 0; at < CELLS; at++) {
                if (isHole(at)) {
                    found++;
                }
            }
            return found;
        }

        boolean hasSpare(int spare) {
            return spare >= 0 && spare < spareCount;
        }

        int spareKnob(int spare, int t, int side) {
            return spareKnobs[spare * SIDES + (side + SIDES - t) % SIDES];
        }

        int calledOver(int hole, int side) {
            int next = beside(hole, side);
            return next == NONE || !isPiece(next) ? NO_KNOB : -knobs[next * SIDES + opposite(side)];
        }

        int sparesFor(int hole) {
            int found = 0;
            for (int spare = 0; spare < spareCount; spare++) {
                for (int t = 0; t < SIDES; t++) {
                    if (fitsHole(hole, spare, t)) {
                        found++;
                    }
                }
            }
            return found;
        }

        int firstSpareFor(int hole) {
            for (int spare = 0; spare < spareCount; spare++) {
                for (int t = 0; t < SIDES; t++) {
                    if (fitsHole(hole, spare, t)) {
                        return 10 * spare + t;
                    }
                }
            }
            return NEVER;
        }

        int homesOf(int spare) {
            int found = 0;
            for (int at = 0; at < CELLS; at++) {
                boolean home = false;
                for (int t = 0; t < SIDES && !home; t++) {
                    home = isHole(at) && fitsHole(at, spare, t);
                }
                found += home ? 1 : 0;
            }
            return found;
        }

        private boolean fitsHole(int hole, int spare, int t) {
            boolean fits = true;
            for (int side = 0; side < SIDES && fits; side++) {
                int called = calledOver(hole, side);
                fits = called == NO_KNOB || called == spareKnob(spare, t, side);
            }
            return fits;
        }
    }

    /** All that goes on. */
    private static final class State {
        private final int[] within = new int[CELLS];
        private int day;
        private int paid;
        private int took;

        State() {
            clear();
        }

        void clear() {
            Arrays.fill(within, NOTHING);
            day = 0;
            paid = 0;
            took = 0;
        }

        void copyFrom(State other) {
            System.arraycopy(other.within, 0, within, 0, CELLS);
            day = other.day;
            paid = other.paid;
            took = other.took;
        }

        boolean lies(int at) {
            return within[at] != NOTHING;
        }

        int lying() {
            int found = 0;
            for (int at = 0; at < CELLS; at++) {
                found += lies(at) ? 1 : 0;
            }
            return found;
        }

        int pressedSpares() {
            int bits = 0;
            for (int at = 0; at < CELLS; at++) {
                bits |= within[at] >= 0 ? 1 << within[at] / 10 : 0;
            }
            return bits;
        }

        boolean isPressed(int spare) {
            return (pressedSpares() >> spare & 1) == 1;
        }
    }

    /** What of a state FITS and is JOINED on a table. */
    private static final class Board {
        private final Table table;
        private final int[] queue = new int[CELLS];

        Board(Table table) {
            this.table = table;
        }

        boolean hasKnobs(State state, int at) {
            return state.within[at] >= 0 || table.isPiece(at);
        }

        /** What: a SPARE that is PRESSED, else it is the CELL's piece. */
        int knobOf(int what, int at, int side) {
            return what >= 0 ? table.spareKnob(what / 10, what % 10, side) : table.knobs[at * SIDES + side];
        }

        /** The SIDES over which that would not FIT what LIES there, if it were in that CELL. */
        int clashes(State state, int at, int what) {
            int bits = 0;
            for (int side = 0; side < SIDES; side++) {
                int next = table.beside(at, side);
                if (next != NONE && state.lies(next)
                    && knobOf(what, at, side) + knobOf(state.within[next], next, opposite(side)) != 0) {
                    bits |= 1 << side;
                }
            }
            return bits;
        }

        /** Whether both LIE and FIT. */
        boolean linked(State state, int at, int side) {
            int next = table.beside(at, side);
            return next != NONE && state.lies(at) && state.lies(next)
                && knobOf(state.within[at], at, side) + knobOf(state.within[next], next, opposite(side)) == 0;
        }

        int friends(State state, int at) {
            int found = 0;
            for (int side = 0; side < SIDES; side++) {
                found += linked(state, at, side) ? 1 : 0;
            }
            return found;
        }

        /** Those JOINED to a CELL, it too (bits of CELLS), by steps of that LAND alone; NONE: of all. */
        int group(State state, int start, int land) {
            int found = 1 << start;
            int ends = 1;
            queue[0] = start;
            for (int i = 0; i < ends && i < CELLS; i++) {
                for (int side = 0; side < SIDES; side++) {
                    int next = linked(state, queue[i], side) ? table.beside(queue[i], side) : NONE;
                    if (next != NONE && (found >> next & 1) == 0 && ends < CELLS
                        && (land == NONE || table.lands[next] == land)) {
                        found |= 1 << next;
                        queue[ends] = next;
                        ends++;
                    }
                }
            }
            return found;
        }

        boolean liesOf(State state, int at, int land) {
            return state.lies(at) && table.lands[at] == land;
        }

        int sizeOf(State state, int land) {
            int found = 0;
            for (int at = 0; at < CELLS; at++) {
                found += liesOf(state, at, land) ? 1 : 0;
            }
            return found;
        }

        int partsOf(State state, int land) {
            int seen = 0;
            int parts = 0;
            for (int at = 0; at < CELLS; at++) {
                if (liesOf(state, at, land) && (seen >> at & 1) == 0) {
                    seen |= group(state, at, land);
                    parts++;
                }
            }
            return parts;
        }

        int lyingLands(State state) {
            int bits = 0;
            for (int at = 0; at < CELLS; at++) {
                if (state.lies(at) && table.lands[at] != HOLE) {
                    bits |= 1 << table.lands[at];
                }
            }
            return bits;
        }

        int borderOf(State state, int land, int other) {
            int found = 0;
            for (int at = 0; at < CELLS; at++) {
                for (int side = 0; side < SIDES && liesOf(state, at, land); side++) {
                    if (linked(state, at, side) && table.lands[table.beside(at, side)] == other) {
                        found++;
                    }
                }
            }
            return found;
        }
    }

    /** What the LAWS tell. */
    private static final class Rules {
        private final Table table;
        private final Board board;
        private final Laws laws;

        Rules(Table table, Board board) {
            this.table = table;
            this.board = board;
            this.laws = table.laws;
        }

        int ways(int day, int at, int to, int side) {
            laws.setDayAlone(day);
            laws.vars[ACROSS] = at % WIDE;
            laws.vars[DOWN] = at / WIDE;
            laws.vars[LAND] = table.lands[at];
            // A HOLE is of no LAND, so that two HOLES are not of one LAND.
            laws.vars[SAME] = table.isPiece(at) && table.lands[at] == table.lands[to] ? 1 : 0;
            laws.vars[SIDE] = side;
            return held(laws.value(WAYS), 1, 99);
        }

        int taxes(State state, int land) {
            int size = board.sizeOf(state, land);
            if (size == 0) {
                return 0;
            }
            laws.setDayAlone(state.day);
            laws.vars[LAND] = land;
            laws.vars[SIZE] = size;
            laws.vars[PARTS] = board.partsOf(state, land);
            return held(laws.value(TAXES), 0, 999);
        }

        boolean isWet(int day) {
            laws.setDayAlone(day);
            return laws.value(WET) > 0;
        }

        int falls(State state, int at) {
            laws.setDayAlone(state.day);
            laws.vars[ACROSS] = at % WIDE;
            laws.vars[DOWN] = at / WIDE;
            laws.vars[LAND] = table.lands[at];
            laws.vars[JOINED] = board.friends(state, at);
            return held(laws.value(FALLS), 0, 100);
        }

        private static int held(int value, int least, int most) {
            return Math.max(least, Math.min(most, value));
        }
    }

    /** The least and the most of what could be. */
    private static final class Paths {
        private static final int OUT_OF_REACH = 1000000;

        private final Table table;
        private final Board board;
        private final Rules rules;
        private final int[] sums = new int[CELLS];
        private int open;
        // The most that LIE, by which of the last WIDE CELLS do: bit X is the latest one in that column.
        private final int[] best = new int[MASKS];
        private final int[] next = new int[MASKS];

        Paths(Table table, Board board, Rules rules) {
            this.table = table;
            this.board = board;
            this.rules = rules;
        }

        int leastWays(State state, int from, int to) {
            start(from, 0);
            int at = closeNearest();
            for (int rounds = 0; rounds < CELLS && at != NONE && at != to; rounds++) {
                for (int side = 0; side < SIDES; side++) {
                    int beside = table.beside(at, side);
                    if (beside != NONE && board.linked(state, at, side)) {
                        sums[beside] = Math.min(sums[beside], sums[at] + rules.ways(state.day, at, beside, side));
                    }
                }
                at = closeNearest();
            }
            return sums[to] == OUT_OF_REACH ? NEVER : sums[to];
        }

        int fewestMore(State state, int from, int to) {
            start(from, state.lies(from) ? 0 : 1);
            int at = closeNearest();
            for (int rounds = 0; rounds < CELLS && at != NONE && at != to; rounds++) {
                for (int side = 0; side < SIDES; side++) {
                    int beside = table.beside(at, side);
                    if (beside != NONE && table.piecesFit(at, side)) {
                        sums[beside] = Math.min(sums[beside], sums[at] + (state.lies(beside) ? 0 : 1));
                    }
                }
                at = closeNearest();
            }
            return sums[to] == OUT_OF_REACH ? NEVER : sums[to];
        }

        int mostTogether() {
            Arrays.fill(best, NONE);
            best[0] = 0;
            for (int at = 0; at < CELLS; at++) {
                goOverCell(at);
            }
            int most = 0;
            for (int mask = 0; mask < MASKS; mask++) {
                most = Math.max(most, best[mask]);
            }
            return most;
        }

        private void goOverCell(int at) {
            int bit = 1 << at % WIDE;
            int barred = (table.piecesFit(at, 3) ? 0 : bit >> 1) | (table.piecesFit(at, 0) ? 0 : bit);
            Arrays.fill(next, NONE);
            for (int mask = 0; mask < MASKS; mask++) {
                if (best[mask] != NONE) {
                    next[mask & ~bit] = Math.max(next[mask & ~bit], best[mask]);
                    if (table.isPiece(at) && (mask & barred) == 0) {
                        next[mask | bit] = Math.max(next[mask | bit], best[mask] + 1);
                    }
                }
            }
            System.arraycopy(next, 0, best, 0, MASKS);
        }

        private void start(int from, int sum) {
            Arrays.fill(sums, OUT_OF_REACH);
            sums[from] = sum;
            open = (1 << CELLS) - 1;
        }

        /** The nearest CELL that was not closed yet is closed; NONE if none is in reach. */
        private int closeNearest() {
            int nearest = NONE;
            for (int at = 0; at < CELLS; at++) {
                if ((open >> at & 1) == 1 && sums[at] != OUT_OF_REACH
                    && (nearest == NONE || sums[at] < sums[nearest])) {
                    nearest = at;
                }
            }
            if (nearest != NONE) {
                open &= ~(1 << nearest);
            }
            return nearest;
        }
    }

    /** DAYS and KNOCKS. */
    private static final class Calendar {
        private final Table table;
        private final Board board;
        private final Rules rules;

        Calendar(Table table, Board board, Rules rules) {
            this.table = table;
            this.board = board;
            this.rules = rules;
        }

        boolean isKnock(int seed, int day) {
            return lot(seed, 64 * day) < table.knocks;
        }

        void pass(State state, int n) {
            for (int i = 0; i < n; i++) {
                for (int land = 0; land < LANDS; land++) {
                    state.paid += rules.taxes(state, land);
                }
                endDay(state, table.seed);
            }
        }

        int daysUntilTaken(State state, int at) {
            for (int n = 1; n <= MOST_AHEAD; n++) {
                endDay(state, table.seed);
                if (!state.lies(at)) {
                    return n;
                }
            }
            return NEVER;
        }

        boolean joinedAfter(State state, int from, int to, int n, int seed) {
            for (int i = 0; i < n && state.lies(from) && state.lies(to); i++) {
                endDay(state, seed);
            }
            return state.lies(from) && state.lies(to) && (board.group(state, from, NONE) >> to & 1) == 1;
        }

        /** A DAY behind its TAXES. All that a KNOCK takes is found before any of it is taken. */
        private void endDay(State state, int seed) {
            int fallen = 0;
            if (isKnock(seed, state.day)) {
                for (int at = 0; at < CELLS; at++) {
                    if (state.lies(at) && lot(seed, 64 * state.day + 1 + at) < rules.falls(state, at)) {
                        fallen |= 1 << at;
                    }
                }
            }
            for (int at = 0; at < CELLS; at++) {
                if ((fallen >> at & 1) == 1) {
                    state.within[at] = NOTHING;
                }
            }
            state.took += Integer.bitCount(fallen);
            state.day++;
        }

        /** LOT 100. */
        private static int lot(int seed, int which) {
            int h = stir(stir(seed, 123), which);
            return (h >>> 1) % 100;
        }

        private static int stir(int h, int it) {
            int stirred = (h ^ it) * 1103515245 + 12345;
            return stirred ^ stirred >>> 15;
        }
    }

    /** What was ahead of the last things done, and what SLOTS hold. */
    private static final class Past {
        private final State[] done = new State[MOST_UNDONE];
        private int undoable;
        private int nextDone;
        private final State[] slots = new State[SLOTS];
        private int filled;

        Past() {
            for (int i = 0; i < MOST_UNDONE; i++) {
                done[i] = new State();
            }
            for (int i = 0; i < SLOTS; i++) {
                slots[i] = new State();
            }
        }

        void clear() {
            undoable = 0;
            filled = 0;
        }

        void keep(State state) {
            done[nextDone].copyFrom(state);
            nextDone = (nextDone + 1) % MOST_UNDONE;
            undoable = Math.min(undoable + 1, MOST_UNDONE);
        }

        boolean goBack(State state) {
            if (undoable == 0) {
                return false;
            }
            undoable--;
            nextDone = (nextDone + MOST_UNDONE - 1) % MOST_UNDONE;
            state.copyFrom(done[nextDone]);
            return true;
        }

        void fill(int slot, State state) {
            slots[slot].copyFrom(state);
            filled |= 1 << slot;
        }

        boolean goOnFrom(int slot, State state) {
            if ((filled >> slot & 1) == 0) {
                return false;
            }
            state.copyFrom(slots[slot]);
            undoable = 0;
            return true;
        }
    }

    /** What was TOLD of the one that is missing. */
    private static final class Clues {
        private final Table table;
        private final int[] sides = new int[MOST_TOLD];
        private final int[] knobs = new int[MOST_TOLD];
        private int told;
        private final int[] left = new int[2 * FARTHEST + 1];

        Clues(Table table) {
            this.table = table;
        }

        int add(int side, int knob) {
            if (told >= MOST_TOLD) {
                return NONE;
            }
            sides[told] = side;
            knobs[told] = knob;
            told++;
            return told - 1;
        }

        boolean knows(int k) {
            return k >= 0 && k <= told;
        }

        int fitting(int k) {
            int found = 0;
            for (int spare = 0; spare < table.spareCount; spare++) {
                found += turnsOf(spare, k);
            }
            return found;
        }

        int onlySpare(int k) {
            int only = NEVER;
            for (int spare = 0; spare < table.spareCount; spare++) {
                if (turnsOf(spare, k) > 0) {
                    if (only != NEVER) {
                        return NEVER;
                    }
                    only = spare;
                }
            }
            return only;
        }

        int bestSide(int k) {
            if (fitting(k) == 0) {
                return NEVER;
            }
            int best = 0;
            for (int side = 1; side < SIDES; side++) {
                if (worstOf(side, k) < worstOf(best, k)) {
                    best = side;
                }
            }
            return best;
        }

        private int turnsOf(int spare, int k) {
            int found = 0;
            for (int t = 0; t < SIDES; t++) {
                found += isSo(spare, t, k) ? 1 : 0;
            }
            return found;
        }

        private boolean isSo(int spare, int t, int k) {
            boolean so = true;
            for (int i = 0; i < k && so; i++) {
                so = table.spareKnob(spare, t, sides[i]) == knobs[i];
            }
            return so;
        }

        private int worstOf(int side, int k) {
            Arrays.fill(left, 0);
            int worst = 0;
            for (int spare = 0; spare < table.spareCount; spare++) {
                for (int t = 0; t < SIDES; t++) {
                    if (isSo(spare, t, k)) {
                        int knob = FARTHEST + table.spareKnob(spare, t, side);
                        left[knob]++;
                        worst = Math.max(worst, left[knob]);
                    }
                }
            }
            return worst;
        }
    }
}
