import java.util.ArrayList;
import java.util.Arrays;

/** A hall for days of judo. DOC.md tells, as numbered promises, what each call answers. */
public final class JudoHall {
    public static final int NONE = -1;
    public static final int RANGE = -2;
    public static final int STATE = -3;
    public static final int FULL = -4;
    public static final int RESTS = -5;

    private static final int CLASSES = 4;
    private static final int MATS = 4;
    private static final int CLUBS = 16;
    private static final int PEOPLE = 96;
    private static final int MOST_GRAMS = 200000;
    private static final int LAST_MINUTE = 1440;
    private static final int MOST_REST = 120;

    private final Book book;
    private final Tape tape;
    private final Parser parser;
    private final Roll roll;
    private final Drawer drawer;
    private final Board board;
    private final Floor floor;
    private final Podium podium;
    private final Planner planner;
    private final Laws noLaws;
    private final ArrayList<Laws> told;

    public JudoHall() {
        book = new Book();
        tape = new Tape();
        parser = new Parser(tape);
        roll = new Roll(book);
        drawer = new Drawer(book);
        board = new Board(book);
        floor = new Floor(book, board);
        podium = new Podium(book, board);
        planner = new Planner(book, board);
        noLaws = new Laws();
        told = new ArrayList<Laws>();
    }

    // ---- the tape and the laws

    public int feed(int a, int b, int c, int d, int e) {
        if (tape.length + 20 > Tape.ROOM) {
            return FULL;
        }
        tape.push(a);
        tape.push(b);
        tape.push(c);
        tape.push(d);
        tape.push(e);
        return tape.length;
    }

    public int end(int n) {
        if (n < 0 || n > tape.length) {
            return NONE;
        }
        tape.length = n;
        return n;
    }

    public int laws() {
        if (floor.openFights() > 0) {
            // THE TAPE is read, and so gone, though its text is not looked at: the FAULT stays
            tape.length = 0;
            return STATE;
        }
        boolean sound = parser.readLaws();
        tape.length = 0;
        if (!sound) {
            return NONE;
        }
        if (book.isFull()) {
            return FULL;
        }
        book.openEntry();
        keepLaws(parser.handOver());
        return lawsNow().lines;
    }

    public int fault(int what) {
        if (what == 0) {
            return parser.fault;
        }
        return what == 1 ? parser.place : NONE;
    }

    /** The cell counts the laws of THE LOG, so undo needs to move nothing but that cell. */
    private void keepLaws(Laws laws) {
        int number = book.at(Book.LAWS);
        if (number >= 0 && number < told.size()) {
            told.set(number, laws);
        } else {
            told.add(laws);
        }
        book.put(Book.LAWS, number + 1);
    }

    private Laws lawsNow() {
        int last = book.at(Book.LAWS) - 1;
        return last >= 0 && last < told.size() ? told.get(last) : noLaws;
    }

    // ---- people

    public int limit(int c, int low, int high) {
        if (!isClass(c) || !isGrams(low) || !isGrams(high) || low > high) {
            return RANGE;
        }
        if (board.isDrawn(c) || roll.wasAnyAtScales(c)) {
            return STATE;
        }
        if (book.isFull()) {
            return FULL;
        }
        book.openEntry();
        book.put(Book.ofClass(c, Book.LOW), low);
        book.put(Book.ofClass(c, Book.HIGH), high);
        return 1;
    }

    public int enter(int club, int c) {
        if (club < 0 || club >= CLUBS || !isClass(c)) {
            return RANGE;
        }
        if (board.isDrawn(c)) {
            return STATE;
        }
        if (roll.people() >= PEOPLE || book.isFull()) {
            return FULL;
        }
        book.openEntry();
        return roll.add(club, c);
    }

    public int weigh(int f, int grams) {
        if (!roll.has(f) || !isGrams(grams)) {
            return RANGE;
        }
        if (board.isDrawn(roll.classOf(f))) {
            return STATE;
        }
        if (book.isFull()) {
            return FULL;
        }
        book.openEntry();
        return roll.putOnScales(f, grams) ? 1 : 0;
    }

    public int seed(int f, int k) {
        if (!roll.has(f) || k < 0 || k > Roll.SEEDS) {
            return RANGE;
        }
        if (board.isDrawn(roll.classOf(f)) || roll.isSeedOfAnother(f, k)) {
            return STATE;
        }
        if (book.isFull()) {
            return FULL;
        }
        book.openEntry();
        int before = book.at(Book.ofFighter(f, Book.SEED));
        book.put(Book.ofFighter(f, Book.SEED), k);
        return before;
    }

    public int draw(int c) {
        if (!isClass(c)) {
            return RANGE;
        }
        if (board.isDrawn(c)) {
            return STATE;
        }
        int weighed = roll.weighedOf(c);
        if (weighed < 2 || weighed > Drawer.MOST) {
            return NONE;
        }
        if (book.isFull()) {
            return FULL;
        }
        book.openEntry();
        drawer.placeAll(c, weighed);
        board.settle(c);
        return board.fightsOf(c);
    }

    public int fighter(int f, int what) {
        if (!roll.has(f)) {
            return NONE;
        }
        switch (what) {
            case 0: return book.at(Book.ofFighter(f, Book.CLASS));
            case 1: return book.at(Book.ofFighter(f, Book.CLUB));
            case 2: return book.at(Book.ofFighter(f, Book.GRAMS));
            case 3: return book.at(Book.ofFighter(f, Book.SCALES));
            case 4: return book.at(Book.ofFighter(f, Book.SEED));
            case 5: return book.at(Book.ofFighter(f, Book.PLACE));
            case 6: return book.at(Book.ofFighter(f, Book.ENDED));
            default: return NONE;
        }
    }

    public int about(int c, int what) {
        if (!isClass(c)) {
            return NONE;
        }
        switch (what) {
            case 0: return roll.fightersOf(c);
            case 1: return roll.weighedOf(c);
            case 2: return board.kindOf(c);
            case 3: return board.isDrawn(c) ? board.sizeOf(c) : NONE;
            case 4: return board.fightsOf(c);
            case 5: return board.howMany(c, Board.DONE);
            case 6: return board.howMany(c, Board.WALK);
            default: return board.onPlace(c, what - 100);
        }
    }

    // ---- fights

    public int fight(int c, int i, int what) {
        if (!board.has(c, i)) {
            return NONE;
        }
        int state = board.stateOf(c, i);
        boolean done = state == Board.DONE;
        switch (what) {
            case 0: return board.whiteOf(c, i);
            case 1: return board.blueOf(c, i);
            case 2: return board.winnerOf(c, i);
            case 3: return state;
            case 4: return done ? book.at(Book.ofFight(c, i, Book.LINE)) : NONE;
            case 5: return done ? book.at(Book.ofFight(c, i, Book.POINTS)) : 0;
            case 6: return state == Board.OPEN ? book.at(Book.ofFight(c, i, Book.ON_MAT)) : NONE;
            case 7: return done ? book.at(Book.ofFight(c, i, Book.END)) : NONE;
            default: return NONE;
        }
    }

    public int now(int m) {
        if (m < book.at(Book.MINUTE) || m > LAST_MINUTE) {
            return RANGE;
        }
        if (book.isFull()) {
            return FULL;
        }
        book.openEntry();
        book.put(Book.MINUTE, m);
        return m;
    }

    public int rest(int n) {
        if (n < 0 || n > MOST_REST) {
            return RANGE;
        }
        if (book.isFull()) {
            return FULL;
        }
        book.openEntry();
        int before = book.at(Book.REST);
        book.put(Book.REST, n);
        return before;
    }

    public int begin(int c, int i, int mat) {
        if (!board.has(c, i) || !isMat(mat)) {
            return RANGE;
        }
        boolean ready = board.stateOf(c, i) == Board.READY;
        if (lawsNow().lines == 0 || !ready || !floor.isFree(mat)) {
            return STATE;
        }
        if (floor.isHeld(board.whiteOf(c, i)) || floor.isHeld(board.blueOf(c, i))) {
            return RESTS;
        }
        if (book.isFull()) {
            return FULL;
        }
        book.openEntry();
        floor.start(lawsNow().time, c, i, mat);
        floor.turnOver(lawsNow(), mat);
        board.settle(c);
        return 1;
    }

    public int event(int mat, int side, int sign) {
        if (!isMat(mat) || !isSide(side) || sign < 0 || sign >= lawsNow().signs) {
            return RANGE;
        }
        if (!floor.goesOn(mat)) {
            return STATE;
        }
        if (book.isFull()) {
            return FULL;
        }
        book.openEntry();
        floor.giveSign(mat, side, sign);
        int line = floor.ask(lawsNow(), mat);
        board.settle(floor.classOn(mat));
        return line;
    }

    public int tick(int mat, int seconds) {
        if (!isMat(mat) || seconds < 1 || seconds > 9999) {
            return RANGE;
        }
        if (!floor.goesOn(mat)) {
            return STATE;
        }
        if (seconds > book.at(Book.ofMat(mat, Book.LEFT))) {
            return RANGE;
        }
        if (book.isFull()) {
            return FULL;
        }
        book.openEntry();
        floor.letPass(mat, seconds);
        int line = floor.ask(lawsNow(), mat);
        floor.turnOver(lawsNow(), mat);
        board.settle(floor.classOn(mat));
        return line;
    }

    public int decide(int mat, int side) {
        if (!isMat(mat) || !isSide(side)) {
            return RANGE;
        }
        if (!floor.waits(mat)) {
            return STATE;
        }
        if (book.isFull()) {
            return FULL;
        }
        book.openEntry();
        int first = floor.finish(mat, side, NONE, 0);
        board.settle(floor.classOn(mat));
        return first;
    }

    public int mat(int m, int what) {
        if (!isMat(m) || floor.isFree(m)) {
            return NONE;
        }
        switch (what) {
            case 0: return book.at(Book.ofMat(m, Book.MAT_CLASS));
            case 1: return book.at(Book.ofMat(m, Book.MAT_FIGHT));
            case 2: return book.at(Book.ofMat(m, Book.LEFT));
            case 3: return book.at(Book.ofMat(m, Book.EXTRA));
            case 4: return book.at(Book.ofMat(m, Book.WAITS));
            default: return signsOn(m, what);
        }
    }

    private int signsOn(int m, int what) {
        int side = what < 20 ? 0 : 1;
        int sign = what - 10 - 10 * side;
        return what >= 10 && sign < lawsNow().signs ? floor.signsOf(m, side, sign) : NONE;
    }

    public int strike(int c, int i) {
        if (!board.has(c, i)) {
            return RANGE;
        }
        if (board.stateOf(c, i) != Board.DONE) {
            return STATE;
        }
        if (book.isFull()) {
            return FULL;
        }
        book.openEntry();
        return floor.strikeFrom(c, i);
    }

    public int medal(int c, int k) {
        if (!isClass(c)) {
            return NONE;
        }
        switch (board.kindOf(c)) {
            case Board.POOL: return podium.ofPool(c, k);
            case Board.TREE: return podium.ofTree(c, k);
            default: return NONE;
        }
    }

    // ---- plan, log

    public int plan(int m, int d) {
        if (m < 1 || m > MATS || d < 1 || d > 60) {
            return RANGE;
        }
        return planner.planDay(m, d);
    }

    public int planned(int c, int i, int what) {
        if (!board.has(c, i)) {
            return NONE;
        }
        return planner.tell(c, i, what);
    }

    public int undo() {
        if (book.entries == 0) {
            return NONE;
        }
        book.takeBack();
        for (int c = 0; c < CLASSES; c++) {
            board.settle(c);
        }
        return book.entries;
    }

    public int count(int what) {
        switch (what) {
            case 0: return roll.people();
            case 1: return book.at(Book.MINUTE);
            case 2: return book.at(Book.REST);
            case 3: return lawsNow().signs;
            case 4: return lawsNow().lines;
            case 5: return lawsNow().parts;
            case 6: return floor.openFights();
            case 7: return book.entries;
            case 8: return tape.length;
            default: return NONE;
        }
    }

    private static boolean isClass(int c) {
        return c >= 0 && c < CLASSES;
    }

    private static boolean isMat(int m) {
        return m >= 0 && m < MATS;
    }

    private static boolean isSide(int side) {
        return side == 0 || side == 1;
    }

    private static boolean isGrams(int grams) {
        return grams >= 0 && grams <= MOST_GRAMS;
    }

    /** Numbers in a row: all indexing goes through here or through a Book, so that no index can fail. */
    private static final class Row {
        private int[] cells;

        Row(int length, int value) {
            cells = new int[Math.max(length, 0)];
            Arrays.fill(cells, value);
        }

        int get(int i) {
            return i >= 0 && i < cells.length ? cells[i] : NONE;
        }

        void set(int i, int value) {
            if (i >= 0 && i < cells.length) {
                cells[i] = value;
            }
        }

        void fill(int value) {
            Arrays.fill(cells, value);
        }

        void makeRoomFor(int i) {
            if (i >= cells.length) {
                cells = Arrays.copyOf(cells, Math.max(i + 1, 2 * cells.length));
            }
        }
    }

    /**
     * All that ACTS change, as numbered cells, and THE LOG. The log keeps what each changed cell
     * held before, so that undo of any ACT is one and the same.
     */
    private static final class Book {
        static final int MINUTE = 0;
        static final int REST = 1;
        static final int COMERS = 2;
        static final int LAWS = 3;

        static final int LOW = 0;
        static final int HIGH = 1;
        static final int KIND = 2;
        static final int SIZE = 3;
        static final int PLACES = 4;

        static final int CLASS = 0;
        static final int CLUB = 1;
        static final int GRAMS = 2;
        static final int SCALES = 3;
        static final int SEED = 4;
        static final int PLACE = 5;
        static final int ENDED = 6;

        /** WHITE and BLUE are those of the fight's begin; a strike looks whether they still are. */
        static final int MARK = 0;
        static final int WHITE = 1;
        static final int BLUE = 2;
        static final int WINNER = 3;
        static final int LINE = 4;
        static final int POINTS = 5;
        static final int END = 6;
        static final int ON_MAT = 7;

        static final int MAT_CLASS = 0;
        static final int MAT_FIGHT = 1;
        static final int LEFT = 2;
        static final int EXTRA = 3;
        static final int WAITS = 4;
        static final int SIGNS = 5;

        private static final int CLASS_WIDTH = 36;
        private static final int FIGHTER_WIDTH = 7;
        private static final int FIGHT_WIDTH = 8;
        private static final int MAT_WIDTH = 21;
        private static final int CLASS_BASE = 4;
        private static final int FIGHTER_BASE = CLASS_BASE + CLASSES * CLASS_WIDTH;
        private static final int FIGHT_BASE = FIGHTER_BASE + PEOPLE * FIGHTER_WIDTH;
        private static final int MAT_BASE = FIGHT_BASE + CLASSES * Board.FIGHTS * FIGHT_WIDTH;
        private static final int CELLS = MAT_BASE + MATS * MAT_WIDTH;
        private static final int MOST_ENTRIES = 500;

        private final int[] cells;
        private final Row changed;
        private final Row before;
        private final Row starts;
        private int changes;
        private int entries;

        Book() {
            cells = new int[CELLS];
            changed = new Row(512, 0);
            before = new Row(512, 0);
            starts = new Row(MOST_ENTRIES, 0);
            lay(REST, 10);
            for (int c = 0; c < CLASSES; c++) {
                lay(ofClass(c, HIGH), MOST_GRAMS);
            }
            for (int m = 0; m < MATS; m++) {
                lay(ofMat(m, MAT_FIGHT), NONE);
            }
        }

        static int ofClass(int c, int field) {
            return CLASS_BASE + c * CLASS_WIDTH + field;
        }

        static int ofFighter(int f, int field) {
            return FIGHTER_BASE + f * FIGHTER_WIDTH + field;
        }

        static int ofFight(int c, int i, int field) {
            return FIGHT_BASE + Board.slot(c, i) * FIGHT_WIDTH + field;
        }

        static int ofMat(int m, int field) {
            return MAT_BASE + m * MAT_WIDTH + field;
        }

        int at(int cell) {
            return cell >= 0 && cell < cells.length ? cells[cell] : NONE;
        }

        private void lay(int cell, int value) {
            if (cell >= 0 && cell < cells.length) {
                cells[cell] = value;
            }
        }

        void put(int cell, int value) {
            int old = at(cell);
            if (old == value) {
                return;
            }
            changed.makeRoomFor(changes);
            before.makeRoomFor(changes);
            changed.set(changes, cell);
            before.set(changes, old);
            changes++;
            lay(cell, value);
        }

        boolean isFull() {
            return entries >= MOST_ENTRIES;
        }

        void openEntry() {
            starts.set(entries, changes);
            entries++;
        }

        void takeBack() {
            entries--;
            int start = Math.max(starts.get(entries), 0);
            for (int k = changes - 1; k >= start; k--) {
                lay(changed.get(k), before.get(k));
            }
            changes = start;
        }
    }

    /** THE TAPE, and its TOKENS one by one. */
    private static final class Tape {
        static final int ROOM = 3000;
        static final int LONGEST_WORD = 10;
        static final int LONGEST_NUMBER = 4;

        static final int OVER_END = 0;
        static final int BAD = 1;
        static final int NAME = 2;
        static final int NUMBER = 3;
        static final int TIME = 4;
        static final int GOLDEN = 5;
        static final int SIGN = 6;
        static final int WIN = 7;
        static final int WHEN = 8;
        static final int OR = 9;
        static final int AND = 10;
        static final int NOT = 11;
        static final int OVER = 12;
        static final int EXTRA = 13;
        static final int MINE = 14;
        static final int YOURS = 15;
        static final int LEFT = 16;
        static final int OPEN = 17;
        static final int CLOSE = 18;
        static final int STOP = 19;
        static final int PLUS = 20;
        static final int MINUS = 21;
        static final int LESS = 22;
        static final int AT_MOST = 23;
        static final int MORE = 24;
        static final int AT_LEAST = 25;
        static final int EQUAL = 26;
        static final int UNEQUAL = 27;

        private final Row bytes;
        private int length;
        private int next;
        private int kind;
        private int from;
        private int value;

        Tape() {
            bytes = new Row(ROOM, 0);
        }

        void push(int word) {
            for (int shift = 24; shift >= 0; shift -= 8) {
                bytes.set(length, (word >> shift) & 255);
                length++;
            }
        }

        void rewind() {
            next = 0;
        }

        void readToken() {
            while (next < length && isBlank(bytes.get(next))) {
                next++;
            }
            from = next;
            if (next >= length) {
                kind = OVER_END;
                return;
            }
            int first = bytes.get(next);
            if (isLetter(first)) {
                readWord();
            } else if (isDigit(first)) {
                readNumber();
            } else {
                next++;
                kind = markOf(first);
            }
        }

        private void readWord() {
            while (next < length && isLetter(bytes.get(next))) {
                next++;
            }
            kind = next - from > LONGEST_WORD ? BAD : wordKind();
        }

        private void readNumber() {
            value = 0;
            while (next < length && isDigit(bytes.get(next))) {
                if (next - from < LONGEST_NUMBER) {
                    value = 10 * value + bytes.get(next) - '0';
                }
                next++;
            }
            kind = next - from > LONGEST_NUMBER ? BAD : NUMBER;
        }

        private int markOf(int first) {
            switch (first) {
                case '(': return OPEN;
                case ')': return CLOSE;
                case ';': return STOP;
                case '+': return PLUS;
                case '-': return MINUS;
                case '=': return EQUAL;
                case '<': return takeEqual() ? AT_MOST : LESS;
                case '>': return takeEqual() ? AT_LEAST : MORE;
                case '!': return takeEqual() ? UNEQUAL : BAD;
                default: return BAD;
            }
        }

        private boolean takeEqual() {
            boolean there = next < length && bytes.get(next) == '=';
            if (there) {
                next++;
            }
            return there;
        }

        private int wordKind() {
            if (spells("time")) return TIME;
            if (spells("golden")) return GOLDEN;
            if (spells("sign")) return SIGN;
            if (spells("win")) return WIN;
            if (spells("when")) return WHEN;
            if (spells("or")) return OR;
            if (spells("and")) return AND;
            if (spells("not")) return NOT;
            if (spells("over")) return OVER;
            if (spells("extra")) return EXTRA;
            if (spells("mine")) return MINE;
            if (spells("yours")) return YOURS;
            return spells("left") ? LEFT : NAME;
        }

        private boolean spells(String word) {
            if (next - from != word.length()) {
                return false;
            }
            for (int k = 0; k < word.length(); k++) {
                if (bytes.get(from + k) != word.charAt(k)) {
                    return false;
                }
            }
            return true;
        }

        /** Whether the word just read stands at an earlier place of the tape, too. */
        boolean isWordAt(int place, int size) {
            if (next - from != size) {
                return false;
            }
            for (int k = 0; k < size; k++) {
                if (bytes.get(from + k) != bytes.get(place + k)) {
                    return false;
                }
            }
            return true;
        }

        int tokenSize() {
            return next - from;
        }

        private static boolean isBlank(int b) {
            return b == 32 || b == 10;
        }

        private static boolean isLetter(int b) {
            return b >= 'a' && b <= 'z';
        }

        private static boolean isDigit(int b) {
            return b >= '0' && b <= '9';
        }
    }

    /** THE LAWS, each line's cond as code in which what is worked on stands ahead of what works on it. */
    private static final class Laws {
        static final int SIGNS = 8;
        static final int LINES = 20;
        static final int PARTS = 300;
        private static final int STEP = 10000;

        private int time;
        private int golden;
        private int signs;
        private int lines;
        private int parts;
        private int size;
        private final Row code;
        private final Row ends;
        private final Row points;

        Laws() {
            code = new Row(PARTS, 0);
            ends = new Row(LINES, 0);
            points = new Row(LINES, 0);
        }

        void clear() {
            time = 0;
            golden = 0;
            signs = 0;
            lines = 0;
            parts = 0;
            size = 0;
        }

        void emit(int kind, int value) {
            code.set(size, kind * STEP + value);
            size++;
        }

        void endLine() {
            ends.set(lines, size);
            lines++;
        }

        int startOf(int line) {
            return line == 0 ? 0 : ends.get(line - 1);
        }

        int kindAt(int k) {
            return code.get(k) / STEP;
        }

        int valueAt(int k) {
            return code.get(k) % STEP;
        }
    }

    /** Reads THE LAWS token by token: what may come next is told by where it is in the text. */
    private static final class Parser {
        static final int SYNTAX = 1;
        static final int WRONG_NAME = 2;
        static final int NO_ROOM = 3;
        static final int MOST_OPEN = 8;

        private static final int[] HEAD = {
            Tape.TIME, Tape.NUMBER, Tape.STOP, Tape.GOLDEN, Tape.NUMBER, Tape.STOP
        };
        private static final int AT_SIGNS = 6;
        private static final int AT_SIGN_NAME = 7;
        private static final int AT_SIGN_STOP = 8;
        private static final int AT_LINES = 9;
        private static final int AT_POINTS = 10;
        private static final int AT_WHEN = 11;
        private static final int AT_COND = 12;
        private static final int AT_TERM = 13;
        private static final int AT_TERM_NAME = 14;
        private static final int BEHIND_TERM = 15;
        private static final int BEHIND_COND = 16;
        private static final int AT_END = 17;

        private final Tape tape;
        private final Row nameFrom;
        private final Row nameSize;
        private final Row works;
        private Laws draft;
        private int held;
        private int open;
        private int brackets;
        private int place;
        private int fault;
        private int where;
        private int whose;
        private int sum;
        private int comparison;

        Parser(Tape tape) {
            this.tape = tape;
            nameFrom = new Row(Laws.SIGNS, 0);
            nameSize = new Row(Laws.SIGNS, 0);
            works = new Row(64, 0);
            draft = new Laws();
            place = NONE;
        }

        /** The laws just read; another draft is made, for these are kept as they are. */
        Laws handOver() {
            Laws ready = draft;
            draft = new Laws();
            return ready;
        }

        boolean readLaws() {
            draft.clear();
            tape.rewind();
            fault = 0;
            place = NONE;
            where = 0;
            held = 0;
            open = 0;
            brackets = 0;
            for (int n = 0; n <= Tape.ROOM && fault == 0 && where != AT_END; n++) {
                tape.readToken();
                take(tape.kind);
            }
            return fault == 0;
        }

        private void fail(int kind) {
            fault = kind;
            place = tape.from;
        }

        private void take(int kind) {
            if (where < HEAD.length) {
                takeHead(kind);
                return;
            }
            if (where == BEHIND_TERM && comparison != 0 && kind != Tape.PLUS && kind != Tape.MINUS) {
                endComparison();
            }
            switch (where) {
                case AT_SIGNS:
                case AT_LINES: takeSignOrLine(kind); break;
                case AT_SIGN_NAME: takeSignName(kind); break;
                case AT_SIGN_STOP: goIf(kind == Tape.STOP, AT_SIGNS); break;
                case AT_POINTS: takePoints(kind); break;
                case AT_WHEN: goIf(kind == Tape.WHEN, AT_COND); break;
                case AT_COND: takeCond(kind); break;
                case AT_TERM: takeTerm(kind); break;
                case AT_TERM_NAME: takeTermName(kind); break;
                case BEHIND_TERM: takeBehindTerm(kind); break;
                default: takeBehindCond(kind); break;
            }
        }

        private void goIf(boolean fits, int then) {
            if (fits) {
                where = then;
            } else {
                fail(SYNTAX);
            }
        }

        private void takeHead(int kind) {
            boolean fits = where >= 0 && where < HEAD.length && kind == HEAD[where];
            if (fits && where == 1) {
                draft.time = tape.value;
            }
            if (fits && where == 4) {
                draft.golden = tape.value;
            }
            goIf(fits, where + 1);
        }

        private void takeSignOrLine(int kind) {
            if (kind == Tape.OVER_END) {
                where = AT_END;
            } else if (kind == Tape.SIGN && where == AT_SIGNS) {
                goIfRoom(draft.signs < Laws.SIGNS, AT_SIGN_NAME);
            } else if (kind == Tape.WIN) {
                draft.points.set(draft.lines, 1);
                goIfRoom(draft.lines < Laws.LINES, AT_POINTS);
            } else {
                fail(SYNTAX);
            }
        }

        private void goIfRoom(boolean room, int then) {
            if (room) {
                where = then;
            } else {
                fail(NO_ROOM);
            }
        }

        private void takeSignName(int kind) {
            if (kind != Tape.NAME) {
                fail(SYNTAX);
            } else if (signOfToken() != NONE) {
                fail(WRONG_NAME);
            } else {
                nameFrom.set(draft.signs, tape.from);
                nameSize.set(draft.signs, tape.tokenSize());
                draft.signs++;
                where = AT_SIGN_STOP;
            }
        }

        private int signOfToken() {
            for (int k = 0; k < draft.signs; k++) {
                if (tape.isWordAt(nameFrom.get(k), nameSize.get(k))) {
                    return k;
                }
            }
            return NONE;
        }

        private void takePoints(int kind) {
            if (kind == Tape.NUMBER) {
                draft.points.set(draft.lines, tape.value);
                where = AT_WHEN;
            } else {
                goIf(kind == Tape.WHEN, AT_COND);
            }
        }

        private void takeCond(int kind) {
            comparison = 0;
            sum = 0;
            if (kind == Tape.NOT) {
                takePart(AT_COND);
                openThing(kind);
            } else if (kind == Tape.OPEN) {
                openThing(kind);
                brackets++;
            } else if (kind == Tape.OVER || kind == Tape.EXTRA) {
                takePart(BEHIND_COND);
                draft.emit(kind, 0);
                closeNots();
            } else {
                takeTerm(kind);
            }
        }

        private void takePart(int then) {
            goIfRoom(draft.parts < Laws.PARTS, then);
            if (fault == 0) {
                draft.parts++;
            }
        }

        private void openThing(int kind) {
            if (open >= MOST_OPEN) {
                fail(NO_ROOM);
            } else {
                open++;
                hold(kind);
            }
        }

        private void takeTerm(int kind) {
            if (kind == Tape.MINE || kind == Tape.YOURS) {
                takePart(AT_TERM_NAME);
                whose = kind;
            } else if (kind == Tape.LEFT || kind == Tape.NUMBER) {
                takePart(BEHIND_TERM);
                emitTerm(kind, kind == Tape.NUMBER ? tape.value : 0);
            } else {
                fail(SYNTAX);
            }
        }

        private void takeTermName(int kind) {
            if (kind != Tape.NAME) {
                fail(SYNTAX);
            } else if (signOfToken() == NONE) {
                fail(WRONG_NAME);
            } else {
                emitTerm(whose, signOfToken());
                where = BEHIND_TERM;
            }
        }

        /** Sums go from the left, so a + or - works as soon as its second term is there. */
        private void emitTerm(int kind, int value) {
            draft.emit(kind, value);
            if (sum != 0) {
                draft.emit(sum, 0);
            }
            sum = 0;
        }

        /** Only the token behind a comparison's last term tells that it is the last. */
        private void endComparison() {
            draft.emit(comparison, 0);
            closeNots();
            where = BEHIND_COND;
        }

        private void takeBehindTerm(int kind) {
            if (kind == Tape.PLUS || kind == Tape.MINUS) {
                takePart(AT_TERM);
                sum = kind;
            } else if (kind >= Tape.LESS && kind <= Tape.UNEQUAL) {
                takePart(AT_TERM);
                comparison = kind;
            } else {
                fail(SYNTAX);
            }
        }

        private void takeBehindCond(int kind) {
            if (kind == Tape.AND || kind == Tape.OR) {
                takePart(AT_COND);
                emitBinders(kind);
                hold(kind);
            } else if (kind == Tape.CLOSE && brackets > 0) {
                closeBracket();
                where = BEHIND_COND;
            } else if (kind == Tape.STOP && brackets == 0) {
                emitBinders(Tape.OR);
                draft.endLine();
                where = AT_LINES;
            } else {
                fail(SYNTAX);
            }
        }

        private void hold(int kind) {
            works.set(held, kind);
            held++;
        }

        /** Ahead of an "or" all of this bracket work that are held, ahead of an "and" only other ands. */
        private void emitBinders(int kind) {
            int looser = kind == Tape.OR ? Tape.OR : Tape.AND;
            while (held > 0 && (works.get(held - 1) == Tape.AND || works.get(held - 1) == looser)) {
                held--;
                draft.emit(works.get(held), 0);
            }
        }

        private void closeNots() {
            while (held > 0 && works.get(held - 1) == Tape.NOT) {
                held--;
                open--;
                draft.emit(Tape.NOT, 0);
            }
        }

        private void closeBracket() {
            emitBinders(Tape.OR);
            held--;
            open--;
            brackets--;
            closeNots();
        }
    }

    /** FIGHTERS as they come, and the scales. */
    private static final class Roll {
        static final int SEEDS = 8;
        static final int WEIGHED = 1;
        static final int OUT = 2;

        private final Book book;

        Roll(Book book) {
            this.book = book;
        }

        int people() {
            return book.at(Book.COMERS);
        }

        boolean has(int f) {
            return f >= 0 && f < people();
        }

        int classOf(int f) {
            return book.at(Book.ofFighter(f, Book.CLASS));
        }

        int add(int club, int c) {
            int f = people();
            book.put(Book.COMERS, f + 1);
            book.put(Book.ofFighter(f, Book.CLASS), c);
            book.put(Book.ofFighter(f, Book.CLUB), club);
            book.put(Book.ofFighter(f, Book.GRAMS), NONE);
            book.put(Book.ofFighter(f, Book.PLACE), NONE);
            book.put(Book.ofFighter(f, Book.ENDED), NONE);
            return f;
        }

        boolean putOnScales(int f, int grams) {
            int c = classOf(f);
            boolean fits = grams >= book.at(Book.ofClass(c, Book.LOW))
                && grams <= book.at(Book.ofClass(c, Book.HIGH));
            book.put(Book.ofFighter(f, Book.GRAMS), grams);
            book.put(Book.ofFighter(f, Book.SCALES), fits ? WEIGHED : OUT);
            return fits;
        }

        boolean wasAnyAtScales(int c) {
            for (int f = 0; f < people(); f++) {
                if (classOf(f) == c && book.at(Book.ofFighter(f, Book.SCALES)) != 0) {
                    return true;
                }
            }
            return false;
        }

        boolean isSeedOfAnother(int f, int k) {
            for (int other = 0; other < people() && k > 0; other++) {
                boolean rival = other != f && classOf(other) == classOf(f);
                if (rival && book.at(Book.ofFighter(other, Book.SEED)) == k) {
                    return true;
                }
            }
            return false;
        }

        int fightersOf(int c) {
            int found = 0;
            for (int f = 0; f < people(); f++) {
                found += classOf(f) == c ? 1 : 0;
            }
            return found;
        }

        int weighedOf(int c) {
            int found = 0;
            for (int f = 0; f < people(); f++) {
                found += isWeighed(book, f, c) ? 1 : 0;
            }
            return found;
        }

        static boolean isWeighed(Book book, int f, int c) {
            return book.at(Book.ofFighter(f, Book.CLASS)) == c
                && book.at(Book.ofFighter(f, Book.SCALES)) == WEIGHED;
        }
    }

    /** THE DRAW: who takes which PLACE. */
    private static final class Drawer {
        static final int MOST = 32;
        static final int MOST_IN_POOL = 5;
        private static final int NEVER = 99;

        private final Book book;
        private final Row row;
        private final Row others;

        Drawer(Book book) {
            this.book = book;
            row = new Row(MOST, 0);
            others = new Row(CLUBS, 0);
        }

        void placeAll(int c, int weighed) {
            boolean pool = weighed <= MOST_IN_POOL;
            int size = pool ? weighed : placesFor(weighed);
            book.put(Book.ofClass(c, Book.KIND), pool ? Board.POOL : Board.TREE);
            book.put(Book.ofClass(c, Book.SIZE), size);
            for (int p = 0; p < size; p++) {
                book.put(Book.ofClass(c, Book.PLACES + p), NONE);
            }
            if (pool) {
                placePool(c);
            } else {
                makeRow(size);
                placeSeeds(c);
                placeOthers(c, weighed);
            }
        }

        private static int placesFor(int weighed) {
            if (weighed <= 8) {
                return 8;
            }
            return weighed <= 16 ? 16 : 32;
        }

        private void placePool(int c) {
            int next = 0;
            for (int f = 0; f < book.at(Book.COMERS); f++) {
                if (Roll.isWeighed(book, f, c)) {
                    placeOne(c, f, next);
                    next++;
                }
            }
        }

        private void placeOne(int c, int f, int p) {
            book.put(Book.ofClass(c, Book.PLACES + p), f);
            book.put(Book.ofFighter(f, Book.PLACE), p);
        }

        private void makeRow(int size) {
            row.set(0, 0);
            for (int half = 1; half < size; half *= 2) {
                for (int k = 0; k < half; k++) {
                    int p = row.get(k);
                    int odd = p % 2;
                    row.set(k, 2 * p + odd);
                    row.set(2 * half - 1 - k, 2 * p + 1 - odd);
                }
            }
        }

        private boolean isSeed(int f) {
            return book.at(Book.ofFighter(f, Book.SEED)) > 0;
        }

        private void placeSeeds(int c) {
            int next = 0;
            for (int k = 1; k <= Roll.SEEDS; k++) {
                for (int f = 0; f < book.at(Book.COMERS); f++) {
                    if (Roll.isWeighed(book, f, c) && book.at(Book.ofFighter(f, Book.SEED)) == k) {
                        placeOne(c, f, row.get(next));
                        next++;
                    }
                }
            }
        }

        private void placeOthers(int c, int weighed) {
            others.fill(0);
            for (int f = 0; f < book.at(Book.COMERS); f++) {
                if (Roll.isWeighed(book, f, c) && !isSeed(f)) {
                    int club = book.at(Book.ofFighter(f, Book.CLUB));
                    others.set(club, others.get(club) + 1);
                }
            }
            for (int turn = 0; turn < CLUBS; turn++) {
                int club = largestClub();
                placeClub(c, club, weighed);
                others.set(club, 0);
            }
        }

        private int largestClub() {
            int best = 0;
            for (int club = 1; club < CLUBS; club++) {
                if (others.get(club) > others.get(best)) {
                    best = club;
                }
            }
            return best;
        }

        private void placeClub(int c, int club, int weighed) {
            for (int f = 0; f < book.at(Book.COMERS) && others.get(club) > 0; f++) {
                boolean ofClub = book.at(Book.ofFighter(f, Book.CLUB)) == club;
                if (ofClub && Roll.isWeighed(book, f, c) && !isSeed(f)) {
                    placeOne(c, f, bestPlace(c, club, weighed));
                }
            }
        }

        /** Only the first places of THE ROW are looked at: those behind them are BYES. */
        private int bestPlace(int c, int club, int weighed) {
            int best = NONE;
            int latest = NONE;
            for (int k = 0; k < weighed; k++) {
                int p = row.get(k);
                if (book.at(Book.ofClass(c, Book.PLACES + p)) == NONE) {
                    int round = firstMeeting(c, club, p);
                    if (round > latest) {
                        latest = round;
                        best = p;
                    }
                }
            }
            return best;
        }

        private int firstMeeting(int c, int club, int p) {
            int soonest = NEVER;
            int size = book.at(Book.ofClass(c, Book.SIZE));
            for (int q = 0; q < size; q++) {
                int f = book.at(Book.ofClass(c, Book.PLACES + q));
                if (f != NONE && book.at(Book.ofFighter(f, Book.CLUB)) == club) {
                    soonest = Math.min(soonest, meetingRound(p, q));
                }
            }
            return soonest;
        }

        private static int meetingRound(int p, int q) {
            int round = 0;
            for (int apart = (p ^ q) >> 1; apart > 0; apart >>= 1) {
                round++;
            }
            return round;
        }
    }

    /** What is known of each FIGHT now, worked out anew from places and results when these change. */
    private static final class Board {
        static final int FIGHTS = 37;
        static final int SLOTS = CLASSES * FIGHTS;
        static final int POOL = 1;
        static final int TREE = 2;
        static final int OFF = 0;
        static final int READY = 1;
        static final int OPEN = 2;
        static final int DONE = 3;
        static final int WALK = 4;
        static final int LIVES_STAGE = 10;
        static final int FINAL_STAGE = 20;

        private final Book book;
        private final Row white;
        private final Row blue;
        private final Row winner;
        private final Row state;
        private final Row lost;

        Board(Book book) {
            this.book = book;
            white = new Row(SLOTS, NONE);
            blue = new Row(SLOTS, NONE);
            winner = new Row(SLOTS, NONE);
            state = new Row(SLOTS, OFF);
            lost = new Row(4, NONE);
        }

        static int slot(int c, int i) {
            return c * FIGHTS + i;
        }

        int kindOf(int c) {
            return book.at(Book.ofClass(c, Book.KIND));
        }

        int sizeOf(int c) {
            return book.at(Book.ofClass(c, Book.SIZE));
        }

        boolean isDrawn(int c) {
            return kindOf(c) != 0;
        }

        /** Of a TREE alone: a POOL has no PLACES. */
        int onPlace(int c, int p) {
            boolean there = kindOf(c) == TREE && p >= 0 && p < sizeOf(c);
            return there ? book.at(Book.ofClass(c, Book.PLACES + p)) : NONE;
        }

        int fightsOf(int c) {
            int size = sizeOf(c);
            switch (kindOf(c)) {
                case POOL: return size * (size - 1) / 2;
                case TREE: return size - 1 + 2 * stepsOf(size);
                default: return 0;
            }
        }

        /** Steps of one finalist's second lives; as a round's number it is the last ahead of the FINAL. */
        private static int stepsOf(int size) {
            if (size <= 8) {
                return 1;
            }
            return size <= 16 ? 2 : 3;
        }

        boolean has(int c, int i) {
            return isClass(c) && i >= 0 && i < fightsOf(c);
        }

        int whiteOf(int c, int i) {
            return white.get(slot(c, i));
        }

        int blueOf(int c, int i) {
            return blue.get(slot(c, i));
        }

        int winnerOf(int c, int i) {
            return winner.get(slot(c, i));
        }

        int stateOf(int c, int i) {
            return state.get(slot(c, i));
        }

        int loserOf(int c, int i) {
            int first = winnerOf(c, i);
            if (first == NONE) {
                return NONE;
            }
            return whiteOf(c, i) == first ? blueOf(c, i) : whiteOf(c, i);
        }

        int howMany(int c, int wanted) {
            int found = 0;
            for (int i = 0; i < fightsOf(c); i++) {
                found += stateOf(c, i) == wanted ? 1 : 0;
            }
            return found;
        }

        void settle(int c) {
            if (kindOf(c) == POOL) {
                settlePool(c, sizeOf(c));
            }
            if (kindOf(c) == TREE) {
                settleTree(c, sizeOf(c));
                settleLives(c, sizeOf(c), 0);
                settleLives(c, sizeOf(c), 1);
            }
        }

        private void settlePool(int c, int size) {
            int i = 0;
            for (int gap = 1; gap < size; gap++) {
                for (int first = 0; first + gap < size; first++) {
                    int one = book.at(Book.ofClass(c, Book.PLACES + first));
                    int other = book.at(Book.ofClass(c, Book.PLACES + first + gap));
                    settleFight(c, i, one, other);
                    i++;
                }
            }
        }

        private void settleTree(int c, int size) {
            for (int i = 0; i < size / 2; i++) {
                int one = book.at(Book.ofClass(c, Book.PLACES + 2 * i));
                int other = book.at(Book.ofClass(c, Book.PLACES + 2 * i + 1));
                if (one == NONE || other == NONE) {
                    settleWalk(c, i, one, other);
                } else {
                    settleFight(c, i, one, other);
                }
            }
            for (int i = size / 2; i < size - 1; i++) {
                int below = lowerBelow(size, i);
                settleFight(c, i, winnerOf(c, below), winnerOf(c, below + 1));
            }
        }

        /** Rounds are numbered one behind the other, so this holds for all but those of round 0. */
        private static int lowerBelow(int size, int i) {
            return 2 * (i - size / 2);
        }

        private void settleLives(int c, int size, int s) {
            int steps = stepsOf(size);
            int finalist = winnerOf(c, size - 4 + s);
            findLosersTo(c, size, s, finalist);
            int left = lost.get(0);
            for (int t = 1; t <= steps; t++) {
                int i = size - 2 + s * steps + t;
                if (t == 1 && finalist != NONE && left == NONE) {
                    settleWalk(c, i, NONE, lost.get(t));
                } else {
                    settleFight(c, i, left, lost.get(t));
                }
                left = winnerOf(c, i);
            }
        }

        private void findLosersTo(int c, int size, int s, int finalist) {
            lost.fill(NONE);
            int i = size - 4 + s;
            for (int round = stepsOf(size); round >= 0 && finalist != NONE; round--) {
                boolean white = whiteOf(c, i) == finalist;
                lost.set(round, white ? blueOf(c, i) : whiteOf(c, i));
                i = lowerBelow(size, i) + (white ? 0 : 1);
            }
        }

        private void settleWalk(int c, int i, int one, int other) {
            white.set(slot(c, i), one);
            blue.set(slot(c, i), other);
            winner.set(slot(c, i), one == NONE ? other : one);
            state.set(slot(c, i), WALK);
        }

        private void settleFight(int c, int i, int one, int other) {
            int mark = book.at(Book.ofFight(c, i, Book.MARK));
            int unfought = one == NONE || other == NONE ? OFF : READY;
            white.set(slot(c, i), one);
            blue.set(slot(c, i), other);
            winner.set(slot(c, i), mark == DONE ? book.at(Book.ofFight(c, i, Book.WINNER)) : NONE);
            state.set(slot(c, i), mark == OFF ? unfought : mark);
        }

        /** A FIGHT that was begun by others than those who are known for it now. */
        int firstStale(int c) {
            for (int i = 0; i < fightsOf(c); i++) {
                boolean begun = book.at(Book.ofFight(c, i, Book.MARK)) != OFF;
                boolean same = book.at(Book.ofFight(c, i, Book.WHITE)) == whiteOf(c, i)
                    && book.at(Book.ofFight(c, i, Book.BLUE)) == blueOf(c, i);
                if (begun && !same) {
                    return i;
                }
            }
            return NONE;
        }

        int stageOf(int c, int i) {
            int size = sizeOf(c);
            if (kindOf(c) != TREE) {
                return 0;
            }
            if (i > size - 2) {
                return LIVES_STAGE + stepOf(size, i);
            }
            int round = 0;
            for (int next = size / 2; next <= i && round < 5; next += size >> (round + 1)) {
                round++;
            }
            return i == size - 2 ? FINAL_STAGE : round;
        }

        private static int stepOf(int size, int i) {
            int steps = stepsOf(size);
            int behind = i - (size - 1);
            return behind < steps ? behind + 1 : behind - steps + 1;
        }

        /** The first or second (which: 0, 1) of the FIGHTS ahead of one, or NONE. */
        int aheadOf(int c, int i, int which) {
            int size = sizeOf(c);
            if (kindOf(c) != TREE || i < size / 2) {
                return NONE;
            }
            if (i <= size - 2) {
                return lowerBelow(size, i) + which;
            }
            int s = i - (size - 1) < stepsOf(size) ? 0 : 1;
            if (which == 0) {
                return size - 4 + s;
            }
            return stepOf(size, i) > 1 ? i - 1 : NONE;
        }
    }

    /** The MATS: FIGHTS that are OPEN, how the laws end them, and results that are struck. */
    private static final class Floor {
        private static final int MOST_OF_SIGN = 99;

        private final Book book;
        private final Board board;
        private final Row stack;
        private int top;

        Floor(Book book, Board board) {
            this.book = book;
            this.board = board;
            stack = new Row(64, 0);
        }

        private int on(int m, int field) {
            return book.at(Book.ofMat(m, field));
        }

        boolean isFree(int m) {
            return on(m, Book.MAT_FIGHT) == NONE;
        }

        /** Of a MAT that is free: the class of the last FIGHT there. */
        int classOn(int m) {
            return on(m, Book.MAT_CLASS);
        }

        boolean waits(int m) {
            return !isFree(m) && on(m, Book.WAITS) == 1;
        }

        boolean goesOn(int m) {
            return !isFree(m) && on(m, Book.WAITS) == 0;
        }

        int signsOf(int m, int side, int sign) {
            return on(m, Book.SIGNS + side * Laws.SIGNS + sign);
        }

        int openFights() {
            int open = 0;
            for (int m = 0; m < MATS; m++) {
                open += isFree(m) ? 0 : 1;
            }
            return open;
        }

        private int fighterOn(int m, int side) {
            int field = side == 0 ? Book.WHITE : Book.BLUE;
            return book.at(Book.ofFight(on(m, Book.MAT_CLASS), on(m, Book.MAT_FIGHT), field));
        }

        /** Whether a FIGHTER rests, or fights. */
        boolean isHeld(int f) {
            for (int m = 0; m < MATS; m++) {
                if (!isFree(m) && (fighterOn(m, 0) == f || fighterOn(m, 1) == f)) {
                    return true;
                }
            }
            int ended = book.at(Book.ofFighter(f, Book.ENDED));
            return ended != NONE && book.at(Book.MINUTE) < ended + book.at(Book.REST);
        }

        void start(int seconds, int c, int i, int m) {
            book.put(Book.ofFight(c, i, Book.MARK), Board.OPEN);
            book.put(Book.ofFight(c, i, Book.WHITE), board.whiteOf(c, i));
            book.put(Book.ofFight(c, i, Book.BLUE), board.blueOf(c, i));
            book.put(Book.ofFight(c, i, Book.ON_MAT), m);
            book.put(Book.ofMat(m, Book.MAT_CLASS), c);
            book.put(Book.ofMat(m, Book.MAT_FIGHT), i);
            book.put(Book.ofMat(m, Book.LEFT), seconds);
            book.put(Book.ofMat(m, Book.EXTRA), 0);
            book.put(Book.ofMat(m, Book.WAITS), 0);
            for (int k = 0; k < 2 * Laws.SIGNS; k++) {
                book.put(Book.ofMat(m, Book.SIGNS + k), 0);
            }
        }

        /** When the seconds at hand are over, the golden ones begin, or a DECISION is waited for. */
        void turnOver(Laws laws, int m) {
            if (isFree(m) || on(m, Book.LEFT) > 0) {
                return;
            }
            if (on(m, Book.EXTRA) == 0 && laws.golden > 0) {
                book.put(Book.ofMat(m, Book.EXTRA), 1);
                book.put(Book.ofMat(m, Book.LEFT), laws.golden);
            } else {
                book.put(Book.ofMat(m, Book.WAITS), 1);
            }
        }

        void giveSign(int m, int side, int sign) {
            int had = signsOf(m, side, sign);
            int cell = Book.ofMat(m, Book.SIGNS + side * Laws.SIGNS + sign);
            book.put(cell, Math.min(had + 1, MOST_OF_SIGN));
        }

        void letPass(int m, int seconds) {
            book.put(Book.ofMat(m, Book.LEFT), on(m, Book.LEFT) - seconds);
        }

        /** The line that ends the FIGHT, or NONE. */
        int ask(Laws laws, int m) {
            for (int line = 0; line < laws.lines; line++) {
                for (int side = 0; side < 2; side++) {
                    if (holds(laws, line, m, side)) {
                        finish(m, side, line, laws.points.get(line));
                        return line;
                    }
                }
            }
            return NONE;
        }

        private boolean holds(Laws laws, int line, int m, int side) {
            top = 0;
            for (int k = laws.startOf(line); k < laws.ends.get(line); k++) {
                int kind = laws.kindAt(k);
                if (kind == Tape.NOT) {
                    push(1 - pop());
                } else if (kind == Tape.AND || kind == Tape.OR || kind >= Tape.PLUS) {
                    int right = pop();
                    int left = pop();
                    push(workOn(kind, left, right));
                } else {
                    push(valueOf(kind, laws.valueAt(k), m, side));
                }
            }
            return pop() == 1;
        }

        private void push(int value) {
            stack.set(top, value);
            top++;
        }

        private int pop() {
            top = Math.max(top - 1, 0);
            return stack.get(top);
        }

        private int valueOf(int kind, int value, int m, int side) {
            switch (kind) {
                case Tape.MINE: return signsOf(m, side, value);
                case Tape.YOURS: return signsOf(m, 1 - side, value);
                case Tape.LEFT: return on(m, Book.LEFT);
                case Tape.EXTRA: return on(m, Book.EXTRA);
                case Tape.OVER: return on(m, Book.EXTRA) == 1 || on(m, Book.LEFT) == 0 ? 1 : 0;
                default: return value;
            }
        }

        private static int workOn(int kind, int left, int right) {
            switch (kind) {
                case Tape.PLUS: return left + right;
                case Tape.MINUS: return left - right;
                case Tape.AND: return left & right;
                case Tape.OR: return left | right;
                case Tape.LESS: return left < right ? 1 : 0;
                case Tape.AT_MOST: return left <= right ? 1 : 0;
                case Tape.MORE: return left > right ? 1 : 0;
                case Tape.AT_LEAST: return left >= right ? 1 : 0;
                case Tape.EQUAL: return left == right ? 1 : 0;
                default: return left != right ? 1 : 0;
            }
        }

        /** Who wins. */
        int finish(int m, int side, int line, int points) {
            int c = on(m, Book.MAT_CLASS);
            int i = on(m, Book.MAT_FIGHT);
            int first = fighterOn(m, side);
            book.put(Book.ofFight(c, i, Book.MARK), Board.DONE);
            book.put(Book.ofFight(c, i, Book.WINNER), first);
            book.put(Book.ofFight(c, i, Book.LINE), line);
            book.put(Book.ofFight(c, i, Book.POINTS), points);
            book.put(Book.ofFight(c, i, Book.END), book.at(Book.MINUTE));
            leave(m);
            return first;
        }

        private void leave(int m) {
            book.put(Book.ofFighter(fighterOn(m, 0), Book.ENDED), book.at(Book.MINUTE));
            book.put(Book.ofFighter(fighterOn(m, 1), Book.ENDED), book.at(Book.MINUTE));
            book.put(Book.ofMat(m, Book.MAT_FIGHT), NONE);
        }

        /** How many results and OPEN FIGHTS are gone. */
        int strikeFrom(int c, int i) {
            int gone = 0;
            int next = i;
            for (int pass = 0; pass < Board.FIGHTS && next != NONE; pass++) {
                drop(c, next);
                gone++;
                board.settle(c);
                next = board.firstStale(c);
            }
            return gone;
        }

        private void drop(int c, int i) {
            if (book.at(Book.ofFight(c, i, Book.MARK)) == Board.OPEN) {
                leave(book.at(Book.ofFight(c, i, Book.ON_MAT)));
            }
            book.put(Book.ofFight(c, i, Book.MARK), Board.OFF);
        }
    }

    /** Who is first, second, third. */
    private static final class Podium {
        private final Book book;
        private final Board board;
        private final Row wins;
        private final Row sums;

        Podium(Book book, Board board) {
            this.book = book;
            this.board = board;
            wins = new Row(PEOPLE, 0);
            sums = new Row(PEOPLE, 0);
        }

        int ofTree(int c, int k) {
            int last = board.sizeOf(c) - 2;
            int steps = (board.fightsOf(c) - last - 1) / 2;
            switch (k) {
                case 0: return board.winnerOf(c, last);
                case 1: return board.loserOf(c, last);
                case 2: return board.winnerOf(c, last + steps);
                case 3: return board.winnerOf(c, last + 2 * steps);
                default: return NONE;
            }
        }

        int ofPool(int c, int k) {
            if (board.howMany(c, Board.DONE) < board.fightsOf(c)) {
                return NONE;
            }
            addUp(c);
            for (int p = 0; p < board.sizeOf(c); p++) {
                if (aheadOf(c, member(c, p)) == k) {
                    return member(c, p);
                }
            }
            return NONE;
        }

        private int member(int c, int p) {
            return book.at(Book.ofClass(c, Book.PLACES + p));
        }

        private void addUp(int c) {
            wins.fill(0);
            sums.fill(0);
            for (int i = 0; i < board.fightsOf(c); i++) {
                int f = board.winnerOf(c, i);
                wins.set(f, wins.get(f) + 1);
                sums.set(f, sums.get(f) + book.at(Book.ofFight(c, i, Book.POINTS)));
            }
        }

        /** How many of the POOL are ahead of a FIGHTER. */
        private int aheadOf(int c, int f) {
            int ahead = 0;
            int alike = 0;
            for (int p = 0; p < board.sizeOf(c); p++) {
                alike += areAlike(member(c, p), f) ? 1 : 0;
            }
            for (int p = 0; p < board.sizeOf(c); p++) {
                int other = member(c, p);
                if (areAlike(other, f)) {
                    ahead += other != f && breaksTie(c, other, f, alike) ? 1 : 0;
                } else {
                    ahead += hasMore(other, f) ? 1 : 0;
                }
            }
            return ahead;
        }

        private boolean areAlike(int one, int other) {
            return wins.get(one) == wins.get(other) && sums.get(one) == sums.get(other);
        }

        private boolean hasMore(int one, int other) {
            if (wins.get(one) != wins.get(other)) {
                return wins.get(one) > wins.get(other);
            }
            return sums.get(one) > sums.get(other);
        }

        private boolean breaksTie(int c, int one, int other, int alike) {
            if (alike == 2) {
                return beat(c, one, other);
            }
            int grams = book.at(Book.ofFighter(one, Book.GRAMS));
            int otherGrams = book.at(Book.ofFighter(other, Book.GRAMS));
            return grams != otherGrams ? grams < otherGrams : one < other;
        }

        private boolean beat(int c, int one, int other) {
            for (int i = 0; i < board.fightsOf(c); i++) {
                if (board.winnerOf(c, i) == one && board.loserOf(c, i) == other) {
                    return true;
                }
            }
            return false;
        }
    }

    /** The plan of the day. */
    private static final class Planner {
        private static final int LATEST = 100000;
        private static final int NEVER = 1000000;

        private final Book book;
        private final Board board;
        private final Row order;
        private final Row ends;
        private final Row matFree;
        private final Row fighterFree;
        private final Row earliest;
        private Row mats;
        private Row begins;
        private Row newMats;
        private Row newBegins;
        private int ordered;
        private int length;
        private int lastEnd;

        Planner(Book book, Board board) {
            this.book = book;
            this.board = board;
            order = new Row(Board.SLOTS, 0);
            ends = new Row(Board.SLOTS, NONE);
            matFree = new Row(MATS, 0);
            fighterFree = new Row(PEOPLE, 0);
            earliest = new Row(Board.SLOTS, 0);
            mats = new Row(Board.SLOTS, NONE);
            begins = new Row(Board.SLOTS, NONE);
            newMats = new Row(Board.SLOTS, NONE);
            newBegins = new Row(Board.SLOTS, NONE);
        }

        int tell(int c, int i, int what) {
            switch (what) {
                case 0: return mats.get(Board.slot(c, i));
                case 1: return begins.get(Board.slot(c, i));
                default: return NONE;
            }
        }

        int planDay(int m, int d) {
            length = d;
            clear();
            putOpenOnes();
            putInOrder();
            for (int c = 0; c < CLASSES; c++) {
                findEarliest(c);
            }
            int minute = book.at(Book.MINUTE);
            for (int turn = 0; turn < 2 * Board.SLOTS && ordered > 0; turn++) {
                putFrom(m, minute);
                minute = Math.max(minute + 1, Math.max(soonestMat(m), soonestFight()));
            }
            if (lastEnd > LATEST) {
                return NONE;
            }
            keep();
            return lastEnd;
        }

        private void clear() {
            newMats.fill(NONE);
            newBegins.fill(NONE);
            ends.fill(NONE);
            lastEnd = book.at(Book.MINUTE);
            matFree.fill(lastEnd);
            for (int f = 0; f < book.at(Book.COMERS); f++) {
                int ended = book.at(Book.ofFighter(f, Book.ENDED));
                fighterFree.set(f, ended == NONE ? 0 : ended + book.at(Book.REST));
            }
        }

        /** Only a plan that tells a minute takes the place of the one before. */
        private void keep() {
            Row oldMats = mats;
            Row oldBegins = begins;
            mats = newMats;
            begins = newBegins;
            newMats = oldMats;
            newBegins = oldBegins;
        }

        private void putOpenOnes() {
            for (int m = 0; m < MATS; m++) {
                int i = book.at(Book.ofMat(m, Book.MAT_FIGHT));
                if (i != NONE) {
                    put(book.at(Book.ofMat(m, Book.MAT_CLASS)), i, m, book.at(Book.MINUTE));
                }
            }
        }

        private void put(int c, int i, int m, int minute) {
            int end = minute + length;
            newMats.set(Board.slot(c, i), m);
            newBegins.set(Board.slot(c, i), minute);
            ends.set(Board.slot(c, i), end);
            matFree.set(m, end);
            holdTill(board.whiteOf(c, i), end + book.at(Book.REST));
            holdTill(board.blueOf(c, i), end + book.at(Book.REST));
            lastEnd = Math.max(lastEnd, end);
        }

        private void holdTill(int f, int minute) {
            if (f != NONE) {
                fighterFree.set(f, Math.max(fighterFree.get(f), minute));
            }
        }

        private void putInOrder() {
            ordered = 0;
            for (int stage = 0; stage <= Board.FINAL_STAGE; stage++) {
                for (int c = 0; c < CLASSES; c++) {
                    putStageInOrder(stage, c);
                }
            }
        }

        private void putStageInOrder(int stage, int c) {
            for (int i = 0; i < board.fightsOf(c); i++) {
                boolean waiting = board.stateOf(c, i) == Board.OFF || board.stateOf(c, i) == Board.READY;
                if (waiting && board.stageOf(c, i) == stage) {
                    order.set(ordered, Board.slot(c, i));
                    ordered++;
                }
            }
        }

        private void putFrom(int m, int minute) {
            for (int k = 0; k < m; k++) {
                int place = matFree.get(k) <= minute ? firstThatMay(minute) : NONE;
                if (place != NONE) {
                    int slot = order.get(place);
                    int c = slot / Board.FIGHTS;
                    put(c, slot % Board.FIGHTS, k, minute);
                    takeOutOfOrder(place);
                    findEarliest(c);
                }
            }
        }

        private int firstThatMay(int minute) {
            for (int place = 0; place < ordered; place++) {
                if (earliest.get(order.get(place)) <= minute) {
                    return place;
                }
            }
            return NONE;
        }

        private void takeOutOfOrder(int place) {
            ordered--;
            for (int k = place; k < ordered; k++) {
                order.set(k, order.get(k + 1));
            }
        }

        private int soonestMat(int m) {
            int soonest = NEVER;
            for (int k = 0; k < m; k++) {
                soonest = Math.min(soonest, matFree.get(k));
            }
            return soonest;
        }

        /** No minute between is looked at: nothing may begin ahead of this one. */
        private int soonestFight() {
            int soonest = NEVER;
            for (int place = 0; place < ordered; place++) {
                soonest = Math.min(soonest, earliest.get(order.get(place)));
            }
            return soonest;
        }

        /** A FIGHT that is put hinders those of its class alone: no FIGHTER has two classes. */
        private void findEarliest(int c) {
            for (int i = 0; i < board.fightsOf(c); i++) {
                int free = Math.max(freeFrom(board.whiteOf(c, i)), freeFrom(board.blueOf(c, i)));
                int first = behindFight(c, board.aheadOf(c, i, 0));
                int second = behindFight(c, board.aheadOf(c, i, 1));
                earliest.set(Board.slot(c, i), Math.max(free, Math.max(first, second)));
            }
        }

        private int freeFrom(int f) {
            return f == NONE ? 0 : fighterFree.get(f);
        }

        private int behindFight(int c, int i) {
            if (i == NONE || board.stateOf(c, i) == Board.DONE || board.stateOf(c, i) == Board.WALK) {
                return 0;
            }
            int end = ends.get(Board.slot(c, i));
            return end == NONE ? NEVER : end + book.at(Book.REST);
        }
    }
}
