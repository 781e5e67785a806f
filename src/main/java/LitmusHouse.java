import java.util.Arrays;
import java.util.NoSuchElementException;

/**
 * A house for the study of what threads may see: small programs are read from a tape, and what
 * they can come to is listed under a sequential, a queued and a loose order.
 */
public final class LitmusHouse {
    public static final int NONE = -1;

    private static final int PLACES = 8;
    private static final int TEXT_LIMIT = 1000;
    private static final int FED_AT_ONCE = 20;
    private static final int THREAD_LIMIT = 4;
    private static final int ACTION_LIMIT = 8;
    private static final int CELL_LIMIT = 5;
    private static final int CELL_NAMES = 6;
    private static final int LOCAL_NAMES = 5;
    private static final int MONITOR_NAMES = 2;
    private static final int STATEMENT_LIMIT = 20;
    private static final int NEST_LIMIT = 3;

    // Twenty STATEMENTS, an else and a close of each if, and a stop of each thread are 64 at most.
    private static final int CODE_LIMIT = 64;
    private static final int CODE_MASK = 63;

    private static final int PLAIN = 0;
    private static final int VOLATILE = 1;
    private static final int FINAL = 2;

    // The first six are the ACTIONS, numbered as action() tells them.
    private static final int READ = 0;
    private static final int WRITE = 1;
    private static final int THROUGH = 2;
    private static final int LOCK = 3;
    private static final int UNLOCK = 4;
    private static final int DONE = 5;
    private static final int SET = 6;
    private static final int IF = 7;
    private static final int ELSE = 8;
    private static final int CLOSE = 9;
    private static final int STOP = 10;

    private static final int SEQUENTIAL = 0;
    private static final int QUEUED = 1;
    private static final int LOOSE = 2;
    // Sequential, but with a record of what is BEFORE what: for RACES.
    private static final int TRACED = 3;

    private final int[] tape = new int[TEXT_LIMIT];
    private final Program[] places = new Program[PLACES];
    private final int[] wishes = new int[LOCAL_NAMES];
    private final Reader reader = new Reader();
    private final Printer printer = new Printer();
    private final Search search = new Search();
    private final Likeness likeness = new Likeness();
    private int tapeSize = 0;
    private int faultKind = 0;
    private int faultPlace = NONE;

    public LitmusHouse() {
        Arrays.fill(wishes, NONE);
    }

    public int feed(int a, int b, int c, int d, int e) {
        if (tapeSize > TEXT_LIMIT - FED_AT_ONCE) {
            return NONE;
        }
        feedNumber(a);
        feedNumber(b);
        feedNumber(c);
        feedNumber(d);
        feedNumber(e);
        return tapeSize;
    }

    public boolean end(int n) {
        if (n < 0 || n > tapeSize) {
            return false;
        }
        tapeSize = n;
        return true;
    }

    public int load(int p) throws IndexOutOfBoundsException {
        demandPlace(p);
        Program program = reader.read(tape, tapeSize);
        tapeSize = 0;
        faultKind = reader.faultKind;
        faultPlace = reader.faultPlace;
        if (faultKind != 0) {
            return NONE;
        }
        places[p] = program;
        return program.code.actions;
    }

    public int fault(int what) {
        switch (what) {
            case 0:
                return faultKind;
            case 1:
                return faultPlace;
            default:
                return NONE;
        }
    }

    public boolean drop(int p) throws IndexOutOfBoundsException {
        demandPlace(p);
        boolean there = places[p] != null;
        places[p] = null;
        return there;
    }

    public int look(int p, int what) throws IndexOutOfBoundsException, NoSuchElementException {
        Program program = programAt(p);
        Code code = program.code;
        switch (what) {
            case 0:
                return code.threads;
            case 1:
                return code.actions;
            case 2:
                return program.declaredCells();
            case 3:
                return Integer.bitCount(code.localBits);
            case 4:
                return Integer.bitCount(code.monitorBits);
            case 5:
                return code.statements;
            case 6:
                return code.maker;
            default:
                return NONE;
        }
    }

    public int kind(int p, int c) throws IndexOutOfBoundsException, NoSuchElementException {
        Program program = programAt(p);
        if (c < 0 || c >= CELL_NAMES) {
            return NONE;
        }
        return program.kinds[c];
    }

    public int action(int p, int i, int what) throws IndexOutOfBoundsException, NoSuchElementException {
        Code code = programAt(p).code;
        if (i < 0 || i >= code.actions || i >= ACTION_LIMIT) {
            return NONE;
        }
        int at = code.actionAt[i] & CODE_MASK;
        switch (what) {
            case 0:
                return code.actionThread[i];
            case 1:
                return code.op[at];
            case 2:
                return code.object[at];
            case 3:
                return code.local[at];
            default:
                return NONE;
        }
    }

    public int print(int p) throws IndexOutOfBoundsException, NoSuchElementException {
        return printer.write(programAt(p));
    }

    public int out(int i) {
        return printer.byteAt(i);
    }

    public int take() {
        tapeSize = Math.min(printer.size, TEXT_LIMIT);
        for (int i = 0; i < tapeSize; i++) {
            tape[i] = printer.byteAt(i);
        }
        return tapeSize;
    }

    public int outcomes(int p, int order) throws IndexOutOfBoundsException, NoSuchElementException {
        Program program = programAt(p);
        return isOrder(order) ? outcomesOf(program, order).length : NONE;
    }

    public int value(int p, int order, int i, int l) throws IndexOutOfBoundsException, NoSuchElementException {
        Program program = programAt(p);
        if (!isOrder(order) || l < 0 || l >= LOCAL_NAMES) {
            return NONE;
        }
        int[] row = outcomesOf(program, order);
        return i >= 0 && i < row.length ? Outcomes.valueIn(row[i], l) : NONE;
    }

    public int stuck(int p, int order, int i) throws IndexOutOfBoundsException, NoSuchElementException {
        Program program = programAt(p);
        if (!isOrder(order)) {
            return NONE;
        }
        int[] row = outcomesOf(program, order);
        return i >= 0 && i < row.length ? Outcomes.stuckIn(row[i]) : NONE;
    }

    public boolean wish(int l, int v) {
        if (l < 0 || l >= LOCAL_NAMES || v < NONE || v > 9) {
            return false;
        }
        wishes[l] = v;
        return true;
    }

    public int allowed(int p, int order) throws IndexOutOfBoundsException, NoSuchElementException {
        Program program = programAt(p);
        if (!isOrder(order)) {
            return NONE;
        }
        int[] row = outcomesOf(program, order);
        int count = 0;
        for (int i = 0; i < row.length; i++) {
            if (Outcomes.meets(row[i], wishes)) {
                count++;
            }
        }
        return count;
    }

    public int witness(int p) throws IndexOutOfBoundsException, NoSuchElementException {
        return search.findWitness(programAt(p), wishes);
    }

    public int step(int i) {
        return search.witnessThread(i);
    }

    public int races(int p) throws IndexOutOfBoundsException, NoSuchElementException {
        return Long.bitCount(racesOf(programAt(p)));
    }

    public int race(int p, int i, int which) throws IndexOutOfBoundsException, NoSuchElementException {
        long pairs = racesOf(programAt(p));
        if (i < 0 || which < 0 || which > 1) {
            return NONE;
        }
        int left = i;
        for (int pair = 0; pair < ACTION_LIMIT * ACTION_LIMIT; pair++) {
            if ((pairs >>> pair & 1L) != 0L) {
                if (left == 0) {
                    return which == 0 ? pair >> 3 : pair & 7;
                }
                left--;
            }
        }
        return NONE;
    }

    public int before(int p, int a, int b) throws IndexOutOfBoundsException, NoSuchElementException {
        Program program = programAt(p);
        int actions = program.code.actions;
        if (a < 0 || a >= actions || b < 0 || b >= actions || a == b) {
            return NONE;
        }
        outcomesOf(program, LOOSE);
        long pair = 1L << (ACTION_LIMIT * b + a);
        if ((program.together & pair) == 0L) {
            return 0;
        }
        if ((program.unordered & pair) == 0L) {
            return 1;
        }
        return (program.ordered & pair) != 0L ? 2 : 3;
    }

    public int fence(int p, int order) throws IndexOutOfBoundsException, NoSuchElementException {
        Program program = programAt(p);
        if (order != QUEUED && order != LOOSE || program.cellsOfKind(FINAL) != 0) {
            return NONE;
        }
        int[] due = outcomesOf(program, SEQUENTIAL);
        // A cell that no ACTION touches never belongs to the fewest.
        int open = program.cellsOfKind(PLAIN) & program.code.touchedCells();
        for (int count = 0; count <= CELL_LIMIT; count++) {
            for (int cells = 0; cells < 1 << CELL_NAMES; cells++) {
                if ((cells & ~open) == 0 && Integer.bitCount(cells) == count
                        && search.staysWithin(program, order, cells, due)) {
                    return cells;
                }
            }
        }
        return NONE;
    }

    public int make(int p, int cells, int to) throws IndexOutOfBoundsException, NoSuchElementException {
        demandPlace(p);
        demandPlace(to);
        Program program = programAt(p);
        if ((cells & ~program.cellsOfKind(PLAIN)) != 0) {
            return NONE;
        }
        places[to] = program.withVolatile(cells);
        return Integer.bitCount(cells);
    }

    public boolean same(int p, int q) throws IndexOutOfBoundsException, NoSuchElementException {
        demandPlace(p);
        demandPlace(q);
        return likeness.holds(programAt(p), programAt(q));
    }

    private void feedNumber(int number) {
        for (int shift = 24; shift >= 0; shift -= 8) {
            if (tapeSize < TEXT_LIMIT) {
                tape[tapeSize] = number >>> shift & 255;
                tapeSize++;
            }
        }
    }

    private static void demandPlace(int p) {
        if (p < 0 || p >= PLACES) {
            throw new IndexOutOfBoundsException("no such place");
        }
    }

    private Program programAt(int p) {
        demandPlace(p);
        Program program = places[p];
        if (program == null) {
            throw new NoSuchElementException("no program there");
        }
        return program;
    }

    private static boolean isOrder(int order) {
        return order >= SEQUENTIAL && order <= LOOSE;
    }

    private int[] outcomesOf(Program program, int order) {
        int[] known = program.knownOutcomes(order);
        if (known != null) {
            return known;
        }
        int[] row = search.listOutcomes(program, order);
        program.keepOutcomes(order, row);
        return row;
    }

    private long racesOf(Program program) {
        if (!program.racesKnown) {
            program.races = search.findRaces(program);
            program.racesKnown = true;
        }
        return program.races;
    }

    /** The threads of a program, as one row of entries; it never changes once it is read. */
    private static final class Code {
        final int[] op = new int[CODE_LIMIT];
        // The LOCAL that gets a value, or that an if looks at.
        final int[] local = new int[CODE_LIMIT];
        // The LOCAL that E begins with, or that stands ahead of the dot.
        final int[] base = new int[CODE_LIMIT];
        final int[] digit = new int[CODE_LIMIT];
        // The CELL or the MONITOR.
        final int[] object = new int[CODE_LIMIT];
        // Of an if: where it goes on when it doesn't hold. Of an else: behind its BLOCK.
        final int[] jump = new int[CODE_LIMIT];
        final int[] number = new int[CODE_LIMIT];
        final int[] start = new int[THREAD_LIMIT];
        final int[] actionAt = new int[ACTION_LIMIT];
        final int[] actionThread = new int[ACTION_LIMIT];
        int size = 0;
        int threads = 0;
        int actions = 0;
        int statements = 0;
        int localBits = 0;
        int monitorBits = 0;
        int maker = NONE;
        int doneAction = NONE;

        int add(int kind, int target, int from, int constant, int thing) {
            int at = size & CODE_MASK;
            op[at] = kind;
            local[at] = target;
            base[at] = from;
            digit[at] = constant;
            object[at] = thing;
            number[at] = NONE;
            size = Math.min(size + 1, CODE_LIMIT);
            return at;
        }

        void addAction(int thread, int kind, int target, int from, int constant, int thing) {
            int at = add(kind, target, from, constant, thing);
            if (actions < ACTION_LIMIT) {
                number[at] = actions;
                actionAt[actions] = at;
                actionThread[actions] = thread;
                actions++;
            }
        }

        boolean isCellAction(int at) {
            int kind = op[at & CODE_MASK];
            return kind == READ || kind == WRITE || kind == THROUGH;
        }

        int touchedCells() {
            int cells = 0;
            for (int n = 0; n < actions && n < ACTION_LIMIT; n++) {
                int at = actionAt[n] & CODE_MASK;
                if (isCellAction(at)) {
                    cells |= 1 << object[at];
                }
            }
            return cells;
        }

        /** The ACTIONS of one kind that have one CELL or MONITOR, as bits. */
        int actionsOn(int kind, int thing) {
            int bits = 0;
            for (int n = 0; n < actions && n < ACTION_LIMIT; n++) {
                int at = actionAt[n] & CODE_MASK;
                if (op[at] == kind && object[at] == thing) {
                    bits |= 1 << n;
                }
            }
            return bits;
        }
    }

    /** A program in a PLACE: its threads, the kinds of its cells, and what is known of it already. */
    private static final class Program {
        final Code code;
        final int[] kinds = new int[ACTION_LIMIT];
        // Of pairs of ACTIONS a, b, at bit 8 b + a: both done in some LOOSE run; a BEFORE b in
        // some; a not BEFORE b in some. They are known when the LOOSE OUTCOMES are.
        long together = 0L;
        long ordered = 0L;
        long unordered = 0L;
        // At bit 8 a + b, a the lesser.
        long races = 0L;
        boolean racesKnown = false;
        private int[] sequentialOutcomes = null;
        private int[] queuedOutcomes = null;
        private int[] looseOutcomes = null;

        Program(Code code) {
            this.code = code;
            Arrays.fill(kinds, NONE);
        }

        int cellsOfKind(int kind) {
            int cells = 0;
            for (int c = 0; c < CELL_NAMES; c++) {
                if (kinds[c] == kind) {
                    cells |= 1 << c;
                }
            }
            return cells;
        }

        int declaredCells() {
            return CELL_NAMES - Integer.bitCount(cellsOfKind(NONE));
        }

        Program withVolatile(int cells) {
            Program made = new Program(code);
            for (int c = 0; c < CELL_NAMES; c++) {
                made.kinds[c] = (cells >> c & 1) != 0 ? VOLATILE : kinds[c];
            }
            return made;
        }

        int[] knownOutcomes(int order) {
            switch (order) {
                case SEQUENTIAL:
                    return sequentialOutcomes;
                case QUEUED:
                    return queuedOutcomes;
                default:
                    return looseOutcomes;
            }
        }

        void keepOutcomes(int order, int[] row) {
            switch (order) {
                case SEQUENTIAL:
                    sequentialOutcomes = row;
                    break;
                case QUEUED:
                    queuedOutcomes = row;
                    break;
                default:
                    looseOutcomes = row;
                    break;
            }
        }
    }

    /** Cuts a text into TOKENS, and goes through them one by one. */
    private static final class Scanner {
        static final int END = 0;
        static final int BAD = 1;
        static final int WORD_PLAIN = 2;
        static final int WORD_VOLATILE = 3;
        static final int WORD_FINAL = 4;
        static final int WORD_THREAD = 5;
        static final int WORD_LOCK = 6;
        static final int WORD_UNLOCK = 7;
        static final int WORD_DONE = 8;
        static final int WORD_IF = 9;
        static final int WORD_ELSE = 10;
        static final int CELL = 11;
        static final int LOCAL = 12;
        static final int MONITOR = 13;
        static final int DIGIT = 14;
        static final int SEMICOLON = 15;
        static final int ASSIGN = 16;
        static final int EQUAL = 17;
        static final int PLUS = 18;
        static final int DOT = 19;
        static final int OPEN = 20;
        static final int SHUT = 21;

        // The TOKEN where the reader is.
        int token = END;
        // Which CELL, LOCAL, MONITOR or DIGIT it is.
        int which = NONE;
        int place = 0;
        private int[] text = null;
        private int size = 0;
        private int at = 0;
        // Of each TOKEN its place, which it is, and its kind, as one number.
        private final int[] tokens = new int[TEXT_LIMIT + 1];
        private int count = 0;
        private int index = 0;

        void begin(int[] row, int length) {
            text = row;
            size = row == null ? 0 : Math.min(length, Math.min(row.length, TEXT_LIMIT));
            at = 0;
            count = 0;
            for (int n = 0; n < TEXT_LIMIT && at < size; n++) {
                if (text[at] == ' ' || text[at] == '\n') {
                    at++;
                } else {
                    scanToken();
                }
            }
            index = NONE;
            advance();
        }

        /** Behind the last TOKEN stands the END, however often one goes on. */
        void advance() {
            index = Math.min(index + 1, count);
            if (index < 0 || index >= count || index >= tokens.length) {
                token = END;
                which = NONE;
                place = size;
                return;
            }
            token = tokens[index] & 255;
            which = (tokens[index] >> 8 & 255) - 1;
            place = tokens[index] >> 16;
        }

        private void scanToken() {
            place = at;
            which = NONE;
            if (isWordSign(text[at])) {
                scanWord();
            } else {
                scanSign(text[at]);
            }
            if (count < tokens.length) {
                tokens[count] = place << 16 | which + 1 << 8 | token;
                count++;
            }
        }

        private static boolean isWordSign(int sign) {
            return sign >= 'a' && sign <= 'z' || sign >= 'A' && sign <= 'Z' || sign >= '0' && sign <= '9';
        }

        private void scanWord() {
            while (at < size && isWordSign(text[at])) {
                at++;
            }
            switch (at - place) {
                case 1:
                    token = nameOfOne(text[place]);
                    break;
                case 2:
                    token = place + 1 < size ? nameOfTwo(text[place], text[place + 1]) : BAD;
                    break;
                default:
                    token = longWord();
                    break;
            }
        }

        private int nameOfOne(int sign) {
            if (sign >= '0' && sign <= '9') {
                which = sign - '0';
                return DIGIT;
            }
            if (sign >= 'u' && sign <= 'z') {
                which = sign - 'u';
                return CELL;
            }
            return BAD;
        }

        private int nameOfTwo(int first, int second) {
            int digit = second - '0';
            if (first == 'r' && digit >= 0 && digit < LOCAL_NAMES) {
                which = digit;
                return LOCAL;
            }
            if (first == 'm' && digit >= 0 && digit < MONITOR_NAMES) {
                which = digit;
                return MONITOR;
            }
            return first == 'i' && second == 'f' ? WORD_IF : BAD;
        }

        private int longWord() {
            if (isWord("plain")) {
                return WORD_PLAIN;
            }
            if (isWord("volatile")) {
                return WORD_VOLATILE;
            }
            if (isWord("final")) {
                return WORD_FINAL;
            }
            if (isWord("thread")) {
                return WORD_THREAD;
            }
            if (isWord("lock")) {
                return WORD_LOCK;
            }
            if (isWord("unlock")) {
                return WORD_UNLOCK;
            }
            if (isWord("done")) {
                return WORD_DONE;
            }
            return isWord("else") ? WORD_ELSE : BAD;
        }

        private boolean isWord(String word) {
            if (word.length() != at - place) {
                return false;
            }
            for (int i = 0; i < word.length() && place + i < size; i++) {
                if (text[place + i] != word.charAt(i)) {
                    return false;
                }
            }
            return true;
        }

        private void scanSign(int sign) {
            at++;
            token = signToken(sign);
            if (token == ASSIGN && at < size && text[at] == '=') {
                at++;
                token = EQUAL;
            }
        }

        private static int signToken(int sign) {
            switch (sign) {
                case ';':
                    return SEMICOLON;
                case '=':
                    return ASSIGN;
                case '+':
                    return PLUS;
                case '.':
                    return DOT;
                case '{':
                    return OPEN;
                case '}':
                    return SHUT;
                default:
                    return BAD;
            }
        }
    }

    /** Reads a text as a program, up to its first FAULT. */
    private static final class Reader {
        int faultKind = 0;
        int faultPlace = NONE;
        private final Scanner scanner = new Scanner();
        private final int[] owners = new int[ACTION_LIMIT];
        private Program program = null;
        private Code code = null;
        private int thread = 0;
        private int held = 0;
        private int nesting = 0;
        // What readTerm() and readPlus() have read: E's LOCAL and DIGIT.
        private int sumBase = NONE;
        private int sumDigit = NONE;

        /** The program; it counts only if faultKind is 0 then. */
        Program read(int[] text, int size) {
            begin(text, size);
            boolean fine = readDeclarations();
            for (int n = 0; n <= THREAD_LIMIT && fine && scanner.token == Scanner.WORD_THREAD; n++) {
                fine = openThread() && readBlock(NONE);
                code.add(STOP, NONE, NONE, NONE, NONE);
            }
            if (fine && scanner.token != Scanner.END) {
                refuseToken();
            } else if (fine && code.threads == 0) {
                refuse(7, scanner.place);
            }
            return program;
        }

        private void begin(int[] text, int size) {
            faultKind = 0;
            faultPlace = NONE;
            code = new Code();
            program = new Program(code);
            nesting = 0;
            Arrays.fill(owners, NONE);
            scanner.begin(text, size);
        }

        private boolean refuse(int kind, int place) {
            faultKind = kind;
            faultPlace = place;
            return false;
        }

        private boolean refuseToken() {
            return refuse(1, scanner.place);
        }

        private boolean pass(int token) {
            if (scanner.token != token) {
                return refuse(1, scanner.place);
            }
            scanner.advance();
            return true;
        }

        private boolean readDeclarations() {
            for (int n = 0; n < TEXT_LIMIT; n++) {
                int kind = kindOfWord(scanner.token);
                if (kind == NONE) {
                    return true;
                }
                scanner.advance();
                if (!readDeclaration(kind)) {
                    return false;
                }
            }
            return true;
        }

        private static int kindOfWord(int token) {
            switch (token) {
                case Scanner.WORD_PLAIN:
                    return PLAIN;
                case Scanner.WORD_VOLATILE:
                    return VOLATILE;
                case Scanner.WORD_FINAL:
                    return FINAL;
                default:
                    return NONE;
            }
        }

        private boolean readDeclaration(int kind) {
            if (scanner.token != Scanner.CELL) {
                return refuseToken();
            }
            for (int n = 0; n < TEXT_LIMIT && scanner.token == Scanner.CELL; n++) {
                int cell = scanner.which & 7;
                if (program.kinds[cell] != NONE) {
                    return refuse(2, scanner.place);
                }
                if (program.declaredCells() >= CELL_LIMIT) {
                    return refuse(4, scanner.place);
                }
                program.kinds[cell] = kind;
                scanner.advance();
            }
            return pass(Scanner.SEMICOLON);
        }

        private boolean openThread() {
            if (code.threads >= THREAD_LIMIT) {
                return refuse(4, scanner.place);
            }
            thread = code.threads;
            code.start[thread] = code.size;
            code.threads++;
            held = 0;
            scanner.advance();
            return true;
        }

        /** ahead: the MONITORS that the thread must have at the end too; NONE: any. */
        private boolean readBlock(int ahead) {
            if (!pass(Scanner.OPEN)) {
                return false;
            }
            for (int n = 0; n < TEXT_LIMIT && scanner.token != Scanner.SHUT; n++) {
                if (!readStatement()) {
                    return false;
                }
            }
            if (ahead != NONE && held != ahead) {
                return refuse(5, scanner.place);
            }
            return pass(Scanner.SHUT);
        }

        private boolean readStatement() {
            switch (scanner.token) {
                case Scanner.LOCAL:
                    return readLocalStatement();
                case Scanner.CELL:
                    return readWrite();
                case Scanner.WORD_LOCK:
                    return readMonitorStatement(LOCK);
                case Scanner.WORD_UNLOCK:
                    return readMonitorStatement(UNLOCK);
                case Scanner.WORD_DONE:
                    return readDone();
                case Scanner.WORD_IF:
                    return readIf();
                default:
                    return refuseToken();
            }
        }

        private boolean countStatement() {
            if (code.statements >= STATEMENT_LIMIT) {
                return refuse(4, scanner.place);
            }
            code.statements++;
            return true;
        }

        private boolean mayAct() {
            return code.actions < ACTION_LIMIT || refuse(4, scanner.place);
        }

        private boolean checkLocal() {
            int local = scanner.which & 7;
            if (owners[local] == NONE) {
                owners[local] = thread;
                code.localBits |= 1 << local;
            }
            return owners[local] == thread || refuse(3, scanner.place);
        }

        private boolean checkCell() {
            return program.kinds[scanner.which & 7] != NONE || refuse(2, scanner.place);
        }

        /** Whether this thread may here write a final cell, or be done; it is the MAKER if none is yet. */
        private boolean checkMaker() {
            if (code.maker == NONE) {
                code.maker = thread;
            }
            boolean may = code.maker == thread && nesting == 0 && code.doneAction == NONE;
            return may || refuse(6, scanner.place);
        }

        private boolean readLocalStatement() {
            if (!checkLocal() || !countStatement()) {
                return false;
            }
            int target = scanner.which;
            scanner.advance();
            if (!pass(Scanner.ASSIGN)) {
                return false;
            }
            if (scanner.token == Scanner.CELL) {
                return readRead(READ, target, NONE);
            }
            if (!readTerm()) {
                return false;
            }
            if (scanner.token == Scanner.DOT && sumDigit == NONE) {
                scanner.advance();
                return readRead(THROUGH, target, sumBase);
            }
            if (!readPlus()) {
                return false;
            }
            code.add(SET, target, sumBase, sumDigit, NONE);
            return pass(Scanner.SEMICOLON);
        }

        private boolean readRead(int kind, int target, int from) {
            if (scanner.token != Scanner.CELL) {
                return refuseToken();
            }
            if (!checkCell() || !mayAct()) {
                return false;
            }
            int cell = scanner.which;
            if (kind == THROUGH && program.kinds[cell & 7] != FINAL) {
                return refuse(6, scanner.place);
            }
            code.addAction(thread, kind, target, from, NONE, cell);
            scanner.advance();
            return pass(Scanner.SEMICOLON);
        }

        private boolean readWrite() {
            if (!checkCell() || !countStatement() || !mayAct()) {
                return false;
            }
            int cell = scanner.which;
            if (program.kinds[cell & 7] == FINAL && !checkMaker()) {
                return false;
            }
            scanner.advance();
            if (!pass(Scanner.ASSIGN) || !readTerm() || !readPlus()) {
                return false;
            }
            code.addAction(thread, WRITE, NONE, sumBase, sumDigit, cell);
            return pass(Scanner.SEMICOLON);
        }

        /** E's first TOKEN. */
        private boolean readTerm() {
            sumBase = NONE;
            sumDigit = NONE;
            if (scanner.token == Scanner.DIGIT) {
                sumDigit = scanner.which;
            } else if (scanner.token != Scanner.LOCAL) {
                return refuseToken();
            } else if (!checkLocal()) {
                return false;
            } else {
                sumBase = scanner.which;
            }
            scanner.advance();
            return true;
        }

        /** What may come behind E's LOCAL. */
        private boolean readPlus() {
            if (sumBase == NONE || scanner.token != Scanner.PLUS) {
                return true;
            }
            scanner.advance();
            sumDigit = scanner.which;
            return pass(Scanner.DIGIT);
        }

        private boolean readMonitorStatement(int kind) {
            int word = scanner.place;
            if (!countStatement() || !mayAct()) {
                return false;
            }
            scanner.advance();
            if (scanner.token != Scanner.MONITOR) {
                return refuseToken();
            }
            int monitor = scanner.which & 1;
            boolean has = (held >> monitor & 1) != 0;
            if (has == (kind == LOCK)) {
                return refuse(5, word);
            }
            held ^= 1 << monitor;
            code.monitorBits |= 1 << monitor;
            code.addAction(thread, kind, NONE, NONE, NONE, monitor);
            scanner.advance();
            return pass(Scanner.SEMICOLON);
        }

        private boolean readDone() {
            if (!countStatement() || !mayAct() || !checkMaker()) {
                return false;
            }
            code.doneAction = code.actions;
            code.addAction(thread, DONE, NONE, NONE, NONE, NONE);
            scanner.advance();
            return pass(Scanner.SEMICOLON);
        }

        private boolean readIf() {
            if (!countStatement()) {
                return false;
            }
            if (nesting >= NEST_LIMIT) {
                return refuse(4, scanner.place);
            }
            scanner.advance();
            if (scanner.token != Scanner.LOCAL) {
                return refuseToken();
            }
            if (!checkLocal()) {
                return false;
            }
            int tested = scanner.which;
            scanner.advance();
            if (!pass(Scanner.EQUAL)) {
                return false;
            }
            int constant = scanner.which;
            if (!pass(Scanner.DIGIT)) {
                return false;
            }
            nesting++;
            boolean fine = readBranches(code.add(IF, tested, NONE, constant, NONE));
            nesting--;
            return fine;
        }

        private boolean readBranches(int entry) {
            int ahead = held;
            if (!readBlock(ahead)) {
                return false;
            }
            int middle = NONE;
            if (scanner.token == Scanner.WORD_ELSE) {
                scanner.advance();
                middle = code.add(ELSE, NONE, NONE, NONE, NONE);
                if (!readBlock(ahead)) {
                    return false;
                }
            }
            int last = code.add(CLOSE, NONE, NONE, NONE, NONE);
            code.jump[entry & CODE_MASK] = middle == NONE ? last : middle + 1;
            if (middle != NONE) {
                code.jump[middle & CODE_MASK] = last;
            }
            return true;
        }
    }

    /** Writes programs as texts; the latest one is OUT. */
    private static final class Printer {
        int size = 0;
        private final int[] text = new int[TEXT_LIMIT];
        private boolean lineBegins = true;

        int byteAt(int i) {
            return i >= 0 && i < size && i < TEXT_LIMIT ? text[i] : NONE;
        }

        int write(Program program) {
            size = 0;
            lineBegins = true;
            writeDeclaration("plain", program.cellsOfKind(PLAIN));
            writeDeclaration("volatile", program.cellsOfKind(VOLATILE));
            writeDeclaration("final", program.cellsOfKind(FINAL));
            Code code = program.code;
            for (int t = 0; t < code.threads && t < THREAD_LIMIT; t++) {
                writeThread(code, code.start[t]);
            }
            return size;
        }

        private void writeDeclaration(String kind, int cells) {
            if (cells == 0) {
                return;
            }
            writeWord(kind);
            for (int c = 0; c < CELL_NAMES; c++) {
                if ((cells >> c & 1) != 0) {
                    writeSign('u' + c);
                }
            }
            endStatement();
        }

        private void writeThread(Code code, int from) {
            writeWord("thread");
            writeWord("{");
            endLine();
            for (int at = Math.max(from, 0); at < code.size && at < CODE_LIMIT; at++) {
                if (code.op[at] == STOP) {
                    break;
                }
                writeEntry(code, at);
            }
            writeWord("}");
            endLine();
        }

        private void writeEntry(Code code, int entry) {
            int at = entry & CODE_MASK;
            switch (code.op[at]) {
                case LOCK:
                case UNLOCK:
                    writeWord(code.op[at] == LOCK ? "lock" : "unlock");
                    writeName('m', code.object[at]);
                    endStatement();
                    break;
                case DONE:
                    writeWord("done");
                    endStatement();
                    break;
                case IF:
                    writeWord("if");
                    writeName('r', code.local[at]);
                    writeWord("==");
                    writeSign('0' + code.digit[at]);
                    writeWord("{");
                    endLine();
                    break;
                case ELSE:
                    writeWord("} else {");
                    endLine();
                    break;
                case CLOSE:
                    writeWord("}");
                    endLine();
                    break;
                default:
                    writeAssignment(code, at);
                    break;
            }
        }

        private void writeAssignment(Code code, int entry) {
            int at = entry & CODE_MASK;
            int kind = code.op[at];
            if (kind == WRITE) {
                writeSign('u' + code.object[at]);
            } else {
                writeName('r', code.local[at]);
            }
            writeWord("=");
            if (code.base[at] != NONE) {
                writeName('r', code.base[at]);
            }
            if (kind == READ) {
                writeSign('u' + code.object[at]);
            } else if (kind == THROUGH) {
                put('.');
                put('u' + code.object[at]);
            } else if (code.digit[at] != NONE) {
                if (code.base[at] != NONE) {
                    writeWord("+");
                }
                writeSign('0' + code.digit[at]);
            }
            endStatement();
        }

        private void put(int sign) {
            if (size < TEXT_LIMIT) {
                text[size] = sign;
                size++;
            }
            lineBegins = false;
        }

        private void putGap() {
            if (!lineBegins) {
                put(' ');
            }
        }

        private void writeWord(String word) {
            putGap();
            for (int i = 0; i < word.length(); i++) {
                put(word.charAt(i));
            }
        }

        private void writeSign(int sign) {
            putGap();
            put(sign);
        }

        private void writeName(int letter, int index) {
            putGap();
            put(letter);
            put('0' + index);
        }

        private void endStatement() {
            put(';');
            endLine();
        }

        private void endLine() {
            put('\n');
            lineBegins = true;
        }
    }

    /**
     * OUTCOMES as numbers: r0 .. r4 have four bits each, r0 the highest, the STUCK threads the
     * lowest four; so their order is the order of the numbers. An object gathers some, each once.
     */
    private static final class Outcomes {
        private static final int FIRST_ROOM = 64;
        // Far above what eight ACTIONS can come to.
        private static final int ROOM_LIMIT = 1 << 16;
        private int[] row = new int[FIRST_ROOM];
        private int size = 0;

        static int valueIn(int outcome, int l) {
            return outcome >> (20 - 4 * l) & 15;
        }

        static int stuckIn(int outcome) {
            return outcome & 15;
        }

        static boolean meets(int outcome, int[] wishes) {
            for (int l = 0; l < LOCAL_NAMES && l < wishes.length; l++) {
                if (wishes[l] != NONE && wishes[l] != valueIn(outcome, l)) {
                    return false;
                }
            }
            return true;
        }

        /** How many of the first ones of a sorted row are less than the outcome. */
        static int countBelow(int[] sorted, int count, int outcome) {
            int low = 0;
            int high = Math.min(count, sorted.length);
            for (int n = 0; n < 32 && low < high; n++) {
                int middle = (low + high) >>> 1;
                if (sorted[middle] < outcome) {
                    low = middle + 1;
                } else {
                    high = middle;
                }
            }
            return low;
        }

        static boolean holds(int[] sorted, int outcome) {
            int at = countBelow(sorted, sorted.length, outcome);
            return at < sorted.length && sorted[at] == outcome;
        }

        void clear() {
            size = 0;
        }

        void add(int outcome) {
            int at = countBelow(row, size, outcome);
            if (at < size && row[at] == outcome) {
                return;
            }
            if (size >= row.length && row.length < ROOM_LIMIT) {
                row = Arrays.copyOf(row, 2 * row.length);
            }
            if (size < row.length) {
                for (int i = size; i > at; i--) {
                    row[i] = row[i - 1];
                }
                row[at] = outcome;
                size++;
            }
        }

        int[] copy() {
            return Arrays.copyOf(row, size);
        }
    }

    /** The states that a search has been in. */
    private static final class States {
        private static final int FIRST_ROOM = 256;
        private static final int ROOM_LIMIT = 1 << 15;
        private long[] first = new long[FIRST_ROOM];
        private long[] second = new long[FIRST_ROOM];
        private long[] third = new long[FIRST_ROOM];
        // A slot counts only if it bears this search's turn: so nothing is ever wiped.
        private int[] turns = new int[FIRST_ROOM];
        private int turn = 0;
        private int size = 0;

        void clear() {
            turn++;
            size = 0;
        }

        /** Whether the state is new; it isn't from then on (while there is room: else it stays new). */
        boolean isNew(long a, long b, long c) {
            if (size >= turns.length / 2 && turns.length < ROOM_LIMIT) {
                grow();
            }
            int slot = slotOf(a, b, c);
            if (slot == NONE) {
                return true;
            }
            if (turns[slot] == turn) {
                return false;
            }
            // One slot in eight stays free, so that a look never goes round the whole row.
            if (size < turns.length - turns.length / 8) {
                put(slot, a, b, c);
            }
            return true;
        }

        /** The slot that has the state, or else the free one where it belongs. */
        private int slotOf(long a, long b, long c) {
            int mask = turns.length - 1;
            long mixed = (a * 31L + b) * 0x9E3779B97F4A7C15L + c * 0xC2B2AE3D27D4EB4FL;
            int slot = (int) (mixed >>> 32 ^ mixed >>> 15) & mask;
            for (int n = 0; n <= mask; n++) {
                if (turns[slot] != turn || first[slot] == a && second[slot] == b && third[slot] == c) {
                    return slot;
                }
                slot = slot + 1 & mask;
            }
            return NONE;
        }

        private void put(int slot, long a, long b, long c) {
            turns[slot] = turn;
            first[slot] = a;
            second[slot] = b;
            third[slot] = c;
            size++;
        }

        private void grow() {
            long[] a = first;
            long[] b = second;
            long[] c = third;
            int[] known = turns;
            first = new long[2 * known.length];
            second = new long[2 * known.length];
            third = new long[2 * known.length];
            turns = new int[2 * known.length];
            size = 0;
            for (int i = 0; i < known.length; i++) {
                if (known[i] == turn) {
                    int slot = slotOf(a[i], b[i], c[i]);
                    if (slot != NONE) {
                        put(slot, a[i], b[i], c[i]);
                    }
                }
            }
        }
    }

    /**
     * Does STEPS. A state is three numbers: threads (each thread's next ACTION, the LOCALS, who
     * has the MONITORS, which LOCALS are published, the ACTIONS that are done, the WRITES that are
     * queued), cells (of each cell its value or its latest WRITE, and of each WRITE its value) and
     * earlier (of each ACTION those that are BEFORE it).
     */
    private static final class Machine {
        // Stands for the 0 at first among the WRITES that a READ may see.
        static final int FIRST_ZERO = 8;
        private static final int ENDED = 8;
        private static final int LOCALS_AT = 16;
        private static final int HOLDERS_AT = 36;
        private static final int PUBLISHED_AT = 42;
        private static final int DONE_AT = 47;
        private static final int QUEUE_AT = 55;
        private static final int VALUES_AT = 24;

        long threads = 0L;
        long cells = 0L;
        long earlier = 0L;
        int order = SEQUENTIAL;
        private final int[] writes = new int[ACTION_LIMIT];
        private final int[] unlocks = new int[MONITOR_NAMES];
        private final int[] own = new int[THREAD_LIMIT];
        private Code code = new Code();
        private int volatiles = 0;

        /** volatileCells: as bits, those that count as volatile. */
        void begin(Code program, int ofOrder, int volatileCells) {
            code = program;
            order = ofOrder;
            volatiles = volatileCells;
            for (int c = 0; c < CELL_NAMES; c++) {
                writes[c] = code.actionsOn(WRITE, c);
            }
            for (int m = 0; m < MONITOR_NAMES; m++) {
                unlocks[m] = code.actionsOn(UNLOCK, m);
            }
            Arrays.fill(own, 0);
            for (int n = 0; n < code.actions && n < ACTION_LIMIT; n++) {
                own[code.actionThread[n] & 3] |= 1 << n;
            }
            set(0L, 0L, 0L);
            for (int t = 0; t < code.threads && t < THREAD_LIMIT; t++) {
                goOn(t, code.start[t]);
            }
        }

        void set(long ofThreads, long ofCells, long ofEarlier) {
            threads = ofThreads;
            cells = ofCells;
            earlier = ofEarlier;
        }

        int doneActions() {
            return (int) (threads >>> DONE_AT) & 255;
        }

        int outcome() {
            int number = 0;
            for (int l = 0; l < LOCAL_NAMES; l++) {
                number = number << 4 | valueOf(l);
            }
            number <<= 4;
            for (int t = 0; t < code.threads; t++) {
                if (nextOf(t) != ENDED) {
                    number |= 1 << t;
                }
            }
            return number;
        }

        /** Whether the thread's QUEUE has something. */
        boolean hasQueue(int t) {
            return queueOf(t) != 0;
        }

        boolean canAct(int t) {
            int next = nextOf(t);
            if (next >= code.actions) {
                return false;
            }
            int at = code.actionAt[next & 7] & CODE_MASK;
            switch (code.op[at]) {
                case READ:
                    return !isVolatile(code.object[at]) || !hasQueue(t);
                case THROUGH:
                    return valueOf(code.base[at]) != 0;
                case LOCK:
                    return holderOf(code.object[at]) == 0 && !hasQueue(t);
                case UNLOCK:
                    return !hasQueue(t);
                default:
                    return true;
            }
        }

        /**
         * Whether the thread's next ACTION may be done at once, without a look at other STEPS,
         * as it takes nothing from them and comes to the same whenever it is done: done; in a
         * QUEUE any WRITE; in the LOOSE order a WRITE that is not volatile.
         */
        boolean mayHurry(int t) {
            int next = nextOf(t);
            if (next >= code.actions) {
                return false;
            }
            int at = code.actionAt[next & 7] & CODE_MASK;
            if (code.op[at] == WRITE) {
                return order == QUEUED || order == LOOSE && !isVolatile(code.object[at]);
            }
            return code.op[at] == DONE;
        }

        /** The WRITES that the thread's next ACTION may see, as bits; FIRST_ZERO alone if it sees none. */
        int sights(int t) {
            int at = code.actionAt[nextOf(t) & 7] & CODE_MASK;
            int kind = code.op[at];
            if (order < LOOSE || kind != READ && kind != THROUGH) {
                return 1 << FIRST_ZERO;
            }
            int cell = code.object[at];
            if (order == TRACED || isVolatile(cell)) {
                int latest = inCell(cell);
                return 1 << (latest == 0 ? FIRST_ZERO : latest - 1);
            }
            int written = writes[cell & 7] & doneActions();
            int ahead = aheadOf(t, at, FIRST_ZERO);
            int hidden = 0;
            for (int n = 0; n < ACTION_LIMIT; n++) {
                if ((written & ahead & 1 << n) != 0) {
                    hidden |= earlierThan(n) | 1 << FIRST_ZERO;
                }
            }
            return (written | 1 << FIRST_ZERO) & ~hidden;
        }

        void emptyFirst(int t) {
            int queue = queueOf(t);
            for (int n = 0; n < ACTION_LIMIT; n++) {
                if ((queue >> n & 1) != 0) {
                    putInCell(code.object[code.actionAt[n] & CODE_MASK], writtenBy(n));
                    threads &= ~(1L << (QUEUE_AT + n));
                    cells &= ~(15L << (VALUES_AT + 4 * n));
                    return;
                }
            }
        }

        /** The thread's next ACTION, which sees that WRITE; then what comes at once behind it. */
        void act(int t, int seen) {
            int n = nextOf(t) & 7;
            int at = code.actionAt[n] & CODE_MASK;
            if (order >= LOOSE) {
                earlier |= (long) aheadOf(t, at, seen) << (8 * n);
            }
            switch (code.op[at]) {
                case READ:
                    setLocal(code.local[at], seenValue(t, code.object[at], seen), isPublished(seen));
                    break;
                case THROUGH:
                    setLocal(code.local[at], seenValue(t, code.object[at], seen), false);
                    break;
                case WRITE:
                    write(n, code.object[at], sumAt(at));
                    break;
                case LOCK:
                    threads |= (t + 1L) << (HOLDERS_AT + 3 * code.object[at]);
                    break;
                case UNLOCK:
                    threads &= ~(7L << (HOLDERS_AT + 3 * code.object[at]));
                    break;
                default:
                    break;
            }
            threads |= 1L << (DONE_AT + n);
            goOn(t, at + 1);
        }

        private int nextOf(int t) {
            return (int) (threads >>> (4 * t)) & 15;
        }

        private int valueOf(int l) {
            return (int) (threads >>> (LOCALS_AT + 4 * l)) & 15;
        }

        private int holderOf(int m) {
            return (int) (threads >>> (HOLDERS_AT + 3 * m)) & 7;
        }

        private int queueOf(int t) {
            return (int) (threads >>> QUEUE_AT) & own[t & 3];
        }

        private boolean isVolatile(int cell) {
            return (volatiles >> cell & 1) != 0;
        }

        private int inCell(int cell) {
            return (int) (cells >>> (4 * cell)) & 15;
        }

        private void putInCell(int cell, int content) {
            cells = cells & ~(15L << (4 * cell)) | (long) content << (4 * cell);
        }

        private int writtenBy(int n) {
            return n < ACTION_LIMIT ? (int) (cells >>> (VALUES_AT + 4 * n)) & 15 : 0;
        }

        private int earlierThan(int n) {
            return (int) (earlier >>> (8 * n)) & 255;
        }

        private void setLocal(int l, int v, boolean published) {
            int shift = LOCALS_AT + 4 * l;
            threads = threads & ~(15L << shift) | (long) v << shift;
            threads &= ~(1L << (PUBLISHED_AT + l));
            if (published) {
                threads |= 1L << (PUBLISHED_AT + l);
            }
        }

        /** Whether that is a WRITE of the MAKER behind done, in the one order where it matters. */
        private boolean isPublished(int seen) {
            return order == LOOSE && seen < ACTION_LIMIT && code.doneAction != NONE
                    && seen > code.doneAction && code.actionThread[seen & 7] == code.maker;
        }

        private int seenValue(int t, int cell, int seen) {
            if (order >= LOOSE) {
                return writtenBy(seen);
            }
            int queued = queueOf(t) & writes[cell & 7];
            for (int n = ACTION_LIMIT - 1; n >= 0; n--) {
                if ((queued >> n & 1) != 0) {
                    return writtenBy(n);
                }
            }
            return inCell(cell);
        }

        private void write(int n, int cell, int v) {
            if (order == SEQUENTIAL) {
                putInCell(cell, v);
                return;
            }
            cells |= (long) v << (VALUES_AT + 4 * n);
            if (order == QUEUED) {
                threads |= 1L << (QUEUE_AT + n);
            } else if (order == TRACED || isVolatile(cell)) {
                putInCell(cell, n + 1);
            }
        }

        /** The ACTIONS that are BEFORE the one that the thread does next, as bits. */
        private int aheadOf(int t, int at, int seen) {
            int links = own[t & 3] & doneActions();
            int kind = code.op[at & CODE_MASK];
            int thing = code.object[at & CODE_MASK];
            if (kind == LOCK) {
                links |= unlocks[thing & 1] & doneActions();
            } else if (kind == READ && isVolatile(thing) && seen < ACTION_LIMIT) {
                links |= 1 << seen;
            } else if (kind == THROUGH && code.doneAction != NONE && hasPublished(code.base[at & CODE_MASK])) {
                links |= 1 << code.doneAction;
            }
            int ahead = links;
            for (int n = 0; n < ACTION_LIMIT; n++) {
                if ((links >> n & 1) != 0) {
                    ahead |= earlierThan(n);
                }
            }
            return ahead;
        }

        private boolean hasPublished(int l) {
            return (threads >>> (PUBLISHED_AT + l) & 1L) != 0L;
        }

        private int sumAt(int entry) {
            int base = code.base[entry & CODE_MASK];
            int digit = code.digit[entry & CODE_MASK];
            int sum = digit == NONE ? 0 : digit;
            if (base != NONE) {
                sum += (int) (threads >>> (LOCALS_AT + 4 * base)) & 15;
            }
            return sum % 10;
        }

        /** What the thread does at once from an entry on, up to its next ACTION or its end. */
        private void goOn(int t, int entry) {
            int at = entry & CODE_MASK;
            int next = ENDED;
            for (int n = 0; n < CODE_LIMIT && code.op[at] != STOP; n++) {
                if (code.number[at] != NONE) {
                    next = code.number[at];
                    break;
                }
                boolean leaps = code.op[at] == ELSE
                        || code.op[at] == IF && valueOf(code.local[at]) != code.digit[at];
                if (code.op[at] == SET) {
                    setLocal(code.local[at], sumAt(at), false);
                }
                at = (leaps ? code.jump[at] : at + 1) & CODE_MASK;
            }
            threads = threads & ~(15L << (4 * t)) | (long) next << (4 * t);
        }
    }

    /** Goes through all runs of a program in one order. */
    private static final class Search {
        // Eight ACTIONS, and eight WRITES that leave their QUEUES.
        private static final int STEP_LIMIT = 16;
        private static final int LIST = 0;
        private static final int COMPARE = 1;
        private static final int WITNESS = 2;
        private static final int RACES = 3;

        private final Machine machine = new Machine();
        private final States states = new States();
        private final Outcomes found = new Outcomes();
        private final int[] path = new int[STEP_LIMIT + 1];
        private final int[] witness = new int[STEP_LIMIT + 1];
        private int witnessSize = 0;
        private int shortest = 0;
        private Program program = null;
        private int goal = LIST;
        private int[] wishes = null;
        private int[] due = null;
        private boolean stopped = false;
        private long racing = 0L;

        /** The OUTCOMES of an order; of the LOOSE one what is BEFORE what comes to the program, too. */
        int[] listOutcomes(Program of, int order) {
            found.clear();
            begin(of, order, of.cellsOfKind(VOLATILE), LIST);
            visit(machine.threads, machine.cells, machine.earlier, 0);
            return found.copy();
        }

        /** Whether all OUTCOMES of an order, with those cells volatile, are in a sorted row. */
        boolean staysWithin(Program of, int order, int cells, int[] sorted) {
            due = sorted;
            begin(of, order, of.cellsOfKind(VOLATILE) | cells, COMPARE);
            visit(machine.threads, machine.cells, machine.earlier, 0);
            return !stopped;
        }

        /** How many STEPS the WITNESS has; NONE, and the latest one stays, if there is none. */
        int findWitness(Program of, int[] wished) {
            wishes = wished;
            shortest = STEP_LIMIT + 1;
            begin(of, SEQUENTIAL, 0, WITNESS);
            visit(machine.threads, machine.cells, machine.earlier, 0);
            if (shortest > STEP_LIMIT) {
                return NONE;
            }
            witnessSize = shortest;
            return witnessSize;
        }

        int witnessThread(int i) {
            return i >= 0 && i < witnessSize && i < witness.length ? witness[i] : NONE;
        }

        /** At bit 8 a + b: ACTIONS a and b, a the lesser, are a RACE. */
        long findRaces(Program of) {
            racing = 0L;
            begin(of, TRACED, of.cellsOfKind(VOLATILE), RACES);
            visit(machine.threads, machine.cells, machine.earlier, 0);
            return racing;
        }

        private void begin(Program of, int order, int volatiles, int ofGoal) {
            program = of;
            goal = ofGoal;
            stopped = false;
            states.clear();
            machine.begin(of.code, order, volatiles);
        }

        private void visit(long a, long b, long c, int depth) {
            if (stopped || depth > STEP_LIMIT || !states.isNew(a, b, c)) {
                return;
            }
            machine.set(a, b, c);
            int hurrying = hurryingThread();
            if (hurrying != NONE) {
                doActions(a, b, c, hurrying, depth);
                return;
            }
            boolean moved = false;
            for (int t = 0; t < program.code.threads; t++) {
                boolean emptied = doEmptying(a, b, c, t, depth);
                boolean acted = doActions(a, b, c, t, depth);
                moved = moved || emptied || acted;
            }
            if (!moved) {
                machine.set(a, b, c);
                finish(depth);
            }
        }

        /** A thread whose ACTION needs no other STEPS beside it; a WITNESS wants every row of STEPS. */
        private int hurryingThread() {
            if (goal == WITNESS) {
                return NONE;
            }
            for (int t = 0; t < program.code.threads; t++) {
                if (machine.mayHurry(t)) {
                    return t;
                }
            }
            return NONE;
        }

        private boolean doEmptying(long a, long b, long c, int t, int depth) {
            machine.set(a, b, c);
            if (!machine.hasQueue(t)) {
                return false;
            }
            machine.emptyFirst(t);
            visit(machine.threads, machine.cells, machine.earlier, depth + 1);
            return true;
        }

        private boolean doActions(long a, long b, long c, int t, int depth) {
            machine.set(a, b, c);
            if (!machine.canAct(t)) {
                return false;
            }
            int sights = machine.sights(t);
            for (int seen = 0; seen <= Machine.FIRST_ZERO; seen++) {
                if ((sights >> seen & 1) != 0) {
                    machine.set(a, b, c);
                    machine.act(t, seen);
                    if (depth >= 0 && depth < path.length) {
                        path[depth] = t;
                    }
                    visit(machine.threads, machine.cells, machine.earlier, depth + 1);
                }
            }
            return true;
        }

        /** The machine's state is the end of a run. */
        private void finish(int depth) {
            int outcome = machine.outcome();
            switch (goal) {
                case LIST:
                    found.add(outcome);
                    if (machine.order == LOOSE) {
                        noteOrder();
                    }
                    break;
                case COMPARE:
                    stopped = stopped || due != null && !Outcomes.holds(due, outcome);
                    break;
                case WITNESS:
                    if (depth < shortest && wishes != null && Outcomes.meets(outcome, wishes)) {
                        shortest = depth;
                        System.arraycopy(path, 0, witness, 0, Math.min(depth, path.length));
                    }
                    break;
                default:
                    noteRaces();
                    break;
            }
        }

        private void noteOrder() {
            int done = machine.doneActions();
            long pairs = 0L;
            for (int n = 0; n < ACTION_LIMIT; n++) {
                if ((done >> n & 1) != 0) {
                    pairs |= (long) done << (ACTION_LIMIT * n);
                }
            }
            program.together |= pairs;
            program.ordered |= machine.earlier;
            program.unordered |= pairs & ~machine.earlier;
        }

        private void noteRaces() {
            int done = machine.doneActions();
            for (int b = 1; b < ACTION_LIMIT; b++) {
                for (int a = 0; a < b; a++) {
                    if ((done >> a & done >> b & 1) != 0 && mayRace(a, b)
                            && (machine.earlier >>> (ACTION_LIMIT * b + a) & 1L) == 0L
                            && (machine.earlier >>> (ACTION_LIMIT * a + b) & 1L) == 0L) {
                        racing |= 1L << (ACTION_LIMIT * a + b);
                    }
                }
            }
        }

        /** Whether two ACTIONS are of different threads, of one cell that is not volatile, one a WRITE. */
        private boolean mayRace(int a, int b) {
            Code code = program.code;
            int one = code.actionAt[a & 7] & CODE_MASK;
            int other = code.actionAt[b & 7] & CODE_MASK;
            return code.actionThread[a & 7] != code.actionThread[b & 7]
                    && code.isCellAction(one) && code.isCellAction(other)
                    && (code.op[one] == WRITE || code.op[other] == WRITE)
                    && code.object[one] == code.object[other]
                    && program.kinds[code.object[one] & 7] != VOLATILE;
        }
    }

    /** Whether two programs are ALIKE. */
    private static final class Likeness {
        private static final int NAMES = 16;
        private static final int LOCALS_FROM = 8;
        private static final int MONITORS_FROM = 13;
        // Of each name of one program the name in the other, and back.
        private final int[] there = new int[NAMES];
        private final int[] back = new int[NAMES];

        boolean holds(Program one, Program other) {
            int count = one.code.threads;
            if (count != other.code.threads || one.code.size != other.code.size) {
                return false;
            }
            // Two bits a thread say which one of the other program's it becomes.
            for (int row = 0; row < 1 << (2 * count); row++) {
                if (takesEachThread(row, count) && fits(one, other, row)) {
                    return true;
                }
            }
            return false;
        }

        private static boolean takesEachThread(int row, int count) {
            int taken = 0;
            for (int t = 0; t < count; t++) {
                taken |= 1 << (row >> (2 * t) & 3);
            }
            return taken == (1 << count) - 1;
        }

        private boolean fits(Program one, Program other, int row) {
            Arrays.fill(there, NONE);
            Arrays.fill(back, NONE);
            for (int t = 0; t < one.code.threads && t < THREAD_LIMIT; t++) {
                int from = one.code.start[t];
                int to = other.code.start[row >> (2 * t) & 3];
                if (!threadFits(one, other, from, to)) {
                    return false;
                }
            }
            return true;
        }

        private boolean threadFits(Program one, Program other, int from, int to) {
            for (int n = 0; n < CODE_LIMIT; n++) {
                int at = from + n & CODE_MASK;
                int by = to + n & CODE_MASK;
                if (!entryFits(one, other, at, by)) {
                    return false;
                }
                if (one.code.op[at] == STOP) {
                    return true;
                }
            }
            return false;
        }

        private boolean entryFits(Program one, Program other, int at, int by) {
            Code a = one.code;
            Code b = other.code;
            return a.op[at & CODE_MASK] == b.op[by & CODE_MASK]
                    && a.digit[at & CODE_MASK] == b.digit[by & CODE_MASK]
                    && nameFits(LOCALS_FROM, a.local[at & CODE_MASK], b.local[by & CODE_MASK])
                    && nameFits(LOCALS_FROM, a.base[at & CODE_MASK], b.base[by & CODE_MASK])
                    && objectFits(one, other, at & CODE_MASK, by & CODE_MASK);
        }

        private boolean objectFits(Program one, Program other, int at, int by) {
            int thing = one.code.object[at];
            int into = other.code.object[by];
            if (!one.code.isCellAction(at)) {
                return nameFits(MONITORS_FROM, thing, into);
            }
            return one.kinds[thing & 7] == other.kinds[into & 7] && nameFits(0, thing, into);
        }

        private boolean nameFits(int group, int name, int into) {
            if (name == NONE || into == NONE) {
                return name == into;
            }
            int from = group + name & 15;
            int to = group + into & 15;
            if (there[from] == NONE && back[to] == NONE) {
                there[from] = to;
                back[to] = from;
            }
            return there[from] == to;
        }
    }
}
