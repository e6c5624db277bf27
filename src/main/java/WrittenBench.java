/**
 * Finds reads of cells that nobody wrote ahead in small programs of functions on cells.
 * The words in capitals below (FLOW, USE, MEND, ..) are those of the document.
 */
public final class WrittenBench {
    public static final int NONE = -1;

    private static final int CELLS = 16;
    private static final int ALL_CELLS = 0xFFFF;
    private static final int MOST_NUMBER = 255;
    private static final int FUNCTIONS = 6;
    private static final int MOST_INSTRUCTIONS = 30;
    private static final int MOST_ROW = 8;
    private static final int MOST_SKIP = 30;
    private static final int MOST_INPUT = 16;
    private static final int MOST_COINS = 99;
    private static final int MOST_DONE = 1000;
    private static final int MOST_OPEN = 12;
    private static final int MOST_KEPT = 40;
    private static final int MOST_BITS = 10;
    private static final int MOST_MENDS = 12;

    private static final int SET = 0;
    private static final int COPY = 1;
    private static final int ADD = 2;
    private static final int READ = 3;
    private static final int PRINT = 4;
    private static final int SKIP = 5;
    private static final int STORE = 6;
    private static final int LOAD = 7;
    private static final int CALL = 8;
    private static final int RETURN = 9;
    private static final int FREE = 10;
    private static final int OUTSIDE = 11;

    private static final int RETURNED = 0;
    private static final int REFUSED = 1;
    private static final int TOO_LONG = 2;
    private static final int TOO_DEEP = 3;
    private static final int GOES_ON = 4;

    private static final int RIGHT = 0;
    private static final int SURE = 1;
    private static final int MAYBE = 2;

    private static final int SPENT = -2;
    private static final int NOT_THERE = -2;

    private final Program program = new Program();
    private final int[] coins = new int[FUNCTIONS];
    private final int[] numbers = new int[MOST_INPUT];
    private int numberCount = 0;
    private final Run latest = new Run(program, numbers);
    private boolean hasRun = false;
    private final int[] bits = new int[MOST_BITS];
    private final Run trial = new Run(program, bits);
    private final int[] readsOf = new int[1 << MOST_BITS];
    private final Flow plain = new Flow(program);
    private boolean plainIsFresh = false;
    private final Flow other = new Flow(program);
    private final int[] kinds = new int[FUNCTIONS * MOST_INSTRUCTIONS];
    private final Mender mender = new Mender(program, plain, other);
    private boolean mendsFit = false;

    public WrittenBench() {
        for (int f = 0; f < FUNCTIONS; f++) {
            coins[f] = 1;
        }
    }

    public int code(int f, int op, int a, int b, int c, int d) {
        if (!isFunction(f) || program.length[f] >= MOST_INSTRUCTIONS || !isAsTold(op, a, b, c, d)) {
            return NONE;
        }
        program.put(f, program.length[f], op, a, b, c, d);
        program.length[f]++;
        programIsAnother();
        return program.length[f];
    }

    public boolean change(int f, int i, int op, int a, int b, int c, int d) {
        if (!program.has(f, i) || !isAsTold(op, a, b, c, d)) {
            return false;
        }
        program.put(f, i, op, a, b, c, d);
        programIsAnother();
        return true;
    }

    public int clear(int f) {
        if (!isFunction(f)) {
            return NONE;
        }
        int had = program.length[f];
        if (had > 0) {
            // Of an empty FUNCTION nothing goes, so mends that were found still fit.
            program.length[f] = 0;
            programIsAnother();
        }
        return had;
    }

    public int input(int v) {
        if (v < 0 || v > MOST_NUMBER || numberCount >= MOST_INPUT) {
            return NONE;
        }
        numbers[numberCount] = v;
        numberCount++;
        return numberCount;
    }

    public int empty() {
        int had = numberCount;
        numberCount = 0;
        return had;
    }

    public int run() {
        hasRun = true;
        return latest.go(numberCount);
    }

    public int ran(int what) {
        if (!hasRun) {
            return NONE;
        }
        switch (what) {
            case 0:
                return latest.done;
            case 1:
                return latest.badUses;
            case 2:
                return latest.firstBad == NONE ? NONE : functionAt(latest.firstBad);
            case 3:
                return latest.firstBad == NONE ? NONE : instructionAt(latest.firstBad);
            case 4:
                return latest.prints;
            case 5:
                return Integer.bitCount(latest.written);
            default:
                return NONE;
        }
    }

    public int printed(int i) {
        if (!hasRun || i < 0 || i >= MOST_KEPT || i >= latest.prints) {
            return NONE;
        }
        return latest.kept[i];
    }

    public int cell(int k, int what) {
        if (!hasRun || !isCell(k)) {
            return NONE;
        }
        switch (what) {
            case 0:
                return latest.number[k];
            case 1:
                return hasBit(latest.written, k) ? 1 : 0;
            default:
                return NONE;
        }
    }

    public int flow() {
        freshen();
        return plain.badUses();
    }

    public int bad(int k, int what) {
        freshen();
        int at = plain.badUseAt(k);
        if (at == NONE) {
            return NONE;
        }
        switch (what) {
            case 0:
                return functionAt(at);
            case 1:
                return instructionAt(at);
            case 2:
                return program.usedCell(at);
            case 3:
                return plain.kind(functionAt(at), instructionAt(at));
            default:
                return NONE;
        }
    }

    public int state(int f, int i, int cell) {
        if (!isFunction(f) || i < 0 || i > program.length[f] || !isCell(cell)) {
            return NONE;
        }
        freshen();
        return plain.mayBe(f, i, cell);
    }

    public int witness(int f, int i, int l) {
        if (!program.has(f, i) || l < 1 || l > MOST_BITS) {
            return NOT_THERE;
        }
        freshen();
        // THE FLOW holds whatever a RUN can do, so what is RIGHT by it needs no search.
        return plain.kind(f, i) == RIGHT ? NONE : leastWitness(locate(f, i), l);
    }

    public int needs(int f) {
        if (!isFunction(f)) {
            return NONE;
        }
        other.takePlain();
        other.follow(f, 0);
        other.tellKinds(kinds);
        int needed = 0;
        for (int cell = 0; cell < CELLS; cell++) {
            other.follow(f, 1 << cell);
            if (!other.hasKinds(kinds)) {
                needed |= 1 << cell;
            }
        }
        return needed;
    }

    public int writes(int f) {
        if (!isFunction(f)) {
            return NONE;
        }
        other.takePlain();
        other.follow(f, ALL_CELLS);
        return other.outWritten[f] & ~other.outUnwritten[f];
    }

    public int cost(int f, int coins) {
        if (!isFunction(f) || coins < 1 || coins > MOST_COINS) {
            return NONE;
        }
        int was = this.coins[f];
        this.coins[f] = coins;
        return was;
    }

    public int mend() {
        freshen();
        if (!mender.gather()) {
            return SPENT;
        }
        int told = mender.find(coins);
        if (told != NONE) {
            mendsFit = true;
        }
        return told;
    }

    public int mended(int k, int what) {
        if (k < 0 || k >= mender.keptCount) {
            return NONE;
        }
        switch (what) {
            case 0:
                return mender.keptFunction[k];
            case 1:
                return mender.keptCell[k];
            default:
                return NONE;
        }
    }

    public boolean apply() {
        if (!mendsFit || !mender.canBeDone()) {
            return false;
        }
        mender.putSets();
        programIsAnother();
        return true;
    }

    public int count(int what) {
        if (what == 0) {
            return numberCount;
        }
        if (what >= 10 && what < 10 + FUNCTIONS) {
            return program.length[what - 10];
        }
        if (what >= 20 && what < 20 + FUNCTIONS) {
            return coins[what - 20];
        }
        return NONE;
    }

    private void programIsAnother() {
        plainIsFresh = false;
        mendsFit = false;
    }

    private void freshen() {
        if (!plainIsFresh) {
            plain.follow(0, ALL_CELLS);
            plainIsFresh = true;
        }
    }

    private int leastWitness(int at, int l) {
        if (showsBad(0, at)) {
            return 0;
        }
        for (int high = 0; high < l; high++) {
            for (int lower = 0; lower < 1 << high; lower++) {
                int w = lower + (1 << high);
                if (readsOf[lower] <= high) {
                    // The RUN of the number without its highest bit never came to read that bit.
                    readsOf[w] = readsOf[lower];
                } else if (showsBad(w, at)) {
                    return w;
                }
            }
        }
        return NONE;
    }

    private boolean showsBad(int w, int at) {
        for (int i = 0; i < MOST_BITS; i++) {
            bits[i] = (w >>> i) & 1;
        }
        trial.watched = at;
        trial.go(MOST_BITS);
        readsOf[w] = trial.reads;
        return trial.watchedIsBad;
    }

    private static boolean isFunction(int f) {
        return f >= 0 && f < FUNCTIONS;
    }

    private static boolean isCell(int k) {
        return k >= 0 && k < CELLS;
    }

    private static boolean isRow(int first, int n) {
        return isCell(first) && n >= 1 && n <= MOST_ROW && first + n <= CELLS;
    }

    private static boolean isAsTold(int op, int a, int b, int c, int d) {
        switch (op) {
            case SET:
                return isCell(a) && b >= 0 && b <= MOST_NUMBER && c == 0 && d == 0;
            case COPY:
                return isRow(a, c) && isRow(b, c) && d == 0;
            case ADD:
                return isCell(a) && isCell(b) && c == 0 && d == 0;
            case READ:
            case PRINT:
                return isCell(a) && b == 0 && c == 0 && d == 0;
            case SKIP:
                return isCell(a) && b >= -MOST_SKIP && b <= MOST_SKIP && c == 0 && d == 0;
            case STORE:
                return isRow(a, b) && isCell(c) && isCell(d);
            case LOAD:
                return isCell(a) && isRow(b, c) && isCell(d);
            case CALL:
                return isFunction(a) && b == 0 && c == 0 && d == 0;
            case RETURN:
                return a == 0 && b == 0 && c == 0 && d == 0;
            case FREE:
            case OUTSIDE:
                return isRow(a, b) && c == 0 && d == 0;
            default:
                return false;
        }
    }

    /** One number for FUNCTION and INSTRUCTION; functionAt and instructionAt take it apart. */
    private static int locate(int f, int i) {
        return f * MOST_INSTRUCTIONS + i;
    }

    private static int functionAt(int at) {
        return at / MOST_INSTRUCTIONS;
    }

    private static int instructionAt(int at) {
        return at % MOST_INSTRUCTIONS;
    }

    private static boolean hasBit(int set, int k) {
        return ((set >>> k) & 1) != 0;
    }

    private static int rowOf(int first, int n) {
        return ((1 << n) - 1) << first;
    }

    private static int withRowCopied(int set, int to, int from, int n) {
        int all = (1 << n) - 1;
        return (set & ~(all << to)) | (((set >>> from) & all) << to);
    }

    private static int withBit(int set, int k, boolean on) {
        return on ? set | (1 << k) : set & ~(1 << k);
    }

    /** The INSTRUCTIONS of all FUNCTIONS; it holds only such as isAsTold lets in. */
    private static final class Program {
        final int[] length = new int[FUNCTIONS];
        final int[] op = new int[FUNCTIONS * MOST_INSTRUCTIONS];
        final int[] a = new int[FUNCTIONS * MOST_INSTRUCTIONS];
        final int[] b = new int[FUNCTIONS * MOST_INSTRUCTIONS];
        final int[] c = new int[FUNCTIONS * MOST_INSTRUCTIONS];
        final int[] d = new int[FUNCTIONS * MOST_INSTRUCTIONS];

        boolean has(int f, int i) {
            return isFunction(f) && i >= 0 && i < length[f];
        }

        void put(int f, int i, int itsOp, int itsA, int itsB, int itsC, int itsD) {
            int at = locate(f, i);
            op[at] = itsOp;
            a[at] = itsA;
            b[at] = itsB;
            c[at] = itsC;
            d[at] = itsD;
        }

        void putSetAhead(int f, int cell) {
            if (length[f] >= MOST_INSTRUCTIONS) {
                return;
            }
            for (int i = length[f]; i > 0; i--) {
                int from = locate(f, i - 1);
                put(f, i, op[from], a[from], b[from], c[from], d[from]);
            }
            put(f, 0, SET, cell, 0, 0, 0);
            length[f]++;
        }

        int usedCell(int at) {
            switch (op[at]) {
                case PRINT:
                case SKIP:
                    return a[at];
                case STORE:
                    return c[at];
                case LOAD:
                    return d[at];
                default:
                    return NONE;
            }
        }

        boolean skipsBelowZero(int f) {
            for (int i = 0; i < length[f]; i++) {
                int at = locate(f, i);
                if (op[at] == SKIP && i + 1 + b[at] < 0) {
                    return true;
                }
            }
            return false;
        }
    }

    /** One RUN and what is told of it. */
    private static final class Run {
        // Each turn does an INSTRUCTION or closes a FUNCTION that a CALL opened.
        private static final int MOST_TURNS = 3 * MOST_DONE;

        private final Program program;
        private final int[] input;
        private int inputCount;
        private final int[] openFunction = new int[MOST_OPEN];
        private final int[] openPlace = new int[MOST_OPEN];
        private int open;
        private int function;
        private int place;
        final int[] number = new int[CELLS];
        int written;
        int done;
        int badUses;
        int firstBad;
        int prints;
        final int[] kept = new int[MOST_KEPT];
        int reads;
        int watched = NONE;
        boolean watchedIsBad;

        Run(Program program, int[] input) {
            this.program = program;
            this.input = input;
        }

        int go(int itsCount) {
            inputCount = itsCount;
            startAnew();
            for (int turn = 0; turn < MOST_TURNS; turn++) {
                if (program.has(function, place)) {
                    int end = done >= MOST_DONE ? TOO_LONG : doOne();
                    if (end != GOES_ON) {
                        return end;
                    }
                    // Only here: an INSTRUCTION that ends the RUN is not done, though its USE counts.
                    done++;
                } else if (open <= 1) {
                    return RETURNED;
                } else {
                    goBack();
                }
            }
            return TOO_LONG;
        }

        private void startAnew() {
            for (int k = 0; k < CELLS; k++) {
                number[k] = 0;
            }
            written = 0;
            open = 1;
            function = 0;
            place = 0;
            done = 0;
            badUses = 0;
            firstBad = NONE;
            prints = 0;
            reads = 0;
            watchedIsBad = false;
        }

        private void goBack() {
            open--;
            function = openFunction[open];
            place = openPlace[open];
        }

        private int doOne() {
            int at = locate(function, place);
            lookAtUse(at);
            place++;
            int a = program.a[at];
            switch (program.op[at]) {
                case PRINT:
                    keepPrint(number[a]);
                    return GOES_ON;
                case SKIP:
                    if (number[a] == 0) {
                        place += program.b[at];
                    }
                    return GOES_ON;
                case STORE:
                    return store(at);
                case LOAD:
                    return load(at);
                case CALL:
                    return enter(a);
                case RETURN:
                    place = MOST_INSTRUCTIONS;
                    return GOES_ON;
                default:
                    fill(at);
                    return GOES_ON;
            }
        }

        private void lookAtUse(int at) {
            int used = program.usedCell(at);
            if (used == NONE || hasBit(written, used)) {
                return;
            }
            if (badUses == 0) {
                firstBad = at;
            }
            badUses++;
            if (at == watched) {
                watchedIsBad = true;
            }
        }

        private void keepPrint(int printed) {
            if (prints < MOST_KEPT) {
                kept[prints] = printed;
            }
            prints++;
        }

        private int store(int at) {
            int v = number[program.c[at]];
            if (v >= program.b[at]) {
                return REFUSED;
            }
            copyRow(program.a[at] + v, program.d[at], 1);
            return GOES_ON;
        }

        private int load(int at) {
            int v = number[program.d[at]];
            if (v >= program.c[at]) {
                return REFUSED;
            }
            copyRow(program.a[at], program.b[at] + v, 1);
            return GOES_ON;
        }

        private int enter(int f) {
            if (open >= MOST_OPEN) {
                return TOO_DEEP;
            }
            openFunction[open] = function;
            openPlace[open] = place;
            open++;
            function = f;
            place = 0;
            return GOES_ON;
        }

        /** The INSTRUCTIONS that do nothing but give cells their numbers. */
        private void fill(int at) {
            int a = program.a[at];
            int b = program.b[at];
            switch (program.op[at]) {
                case SET:
                    fillRow(a, 1, b, true);
                    break;
                case COPY:
                    copyRow(a, b, program.c[at]);
                    break;
                case ADD:
                    fillRow(a, 1, (number[a] + number[b]) & MOST_NUMBER, hasBit(written, a) && hasBit(written, b));
                    break;
                case READ:
                    fillRow(a, 1, nextOfInput(), true);
                    break;
                case FREE:
                    fillRow(a, b, 0, false);
                    break;
                case OUTSIDE:
                    fillRow(a, b, 1, true);
                    break;
                default:
                    break;
            }
        }

        private int nextOfInput() {
            int next = reads < inputCount && reads < input.length ? input[reads] : 0;
            reads++;
            return next;
        }

        private void fillRow(int first, int n, int with, boolean isWritten) {
            for (int k = first; k < first + n; k++) {
                number[k] = with;
                written = withBit(written, k, isWritten);
            }
        }

        private void copyRow(int to, int from, int n) {
            System.arraycopy(number, from, number, to, n);
            written = withRowCopied(written, to, from, n);
        }
    }

    /**
     * THE FLOW of the program from one FUNCTION's begin. A STATE is two sets of cells (bit c is cell c):
     * those that may be WRITTEN and those that may be not; both are empty where nothing comes.
     */
    private static final class Flow {
        private static final int PLACES = MOST_INSTRUCTIONS + 1;
        // Each round adds to a STATE, and all of them together have far fewer bits than this.
        private static final int MOST_ROUNDS = 1000000;

        private final Program program;
        private final int[] written = new int[FUNCTIONS * PLACES];
        private final int[] unwritten = new int[FUNCTIONS * PLACES];
        private final boolean[] due = new boolean[FUNCTIONS * PLACES];
        private boolean anyDue;
        private int nextWritten;
        private int nextUnwritten;
        final int[] inWritten = new int[FUNCTIONS];
        final int[] inUnwritten = new int[FUNCTIONS];
        final int[] outWritten = new int[FUNCTIONS];
        final int[] outUnwritten = new int[FUNCTIONS];
        private final int[] setAhead = new int[FUNCTIONS];
        private final int[] unsetAhead = new int[FUNCTIONS];
        private boolean freeWrites = false;

        Flow(Program program) {
            this.program = program;
        }

        /** From now on nothing is told of begins, and FREE is FREE. */
        void takePlain() {
            freeWrites = false;
            for (int f = 0; f < FUNCTIONS; f++) {
                setAhead[f] = 0;
                unsetAhead[f] = 0;
            }
        }

        void setAtBegin(int f, int cell) {
            setAhead[f] |= 1 << cell;
        }

        /** This cell alone is a source of what is unwritten, so FREE must be none. */
        void unsetAtBegin(int f, int cell) {
            unsetAhead[f] |= 1 << cell;
            freeWrites = true;
        }

        void follow(int root, int rootUnwritten) {
            forget();
            come(root, ALL_CELLS & ~rootUnwritten, rootUnwritten);
            for (int round = 0; round < MOST_ROUNDS && anyDue; round++) {
                anyDue = false;
                for (int f = 0; f < FUNCTIONS; f++) {
                    for (int i = 0; i <= program.length[f]; i++) {
                        if (due[f * PLACES + i]) {
                            takeOn(f, i);
                        }
                    }
                }
            }
        }

        int mayBe(int f, int i, int cell) {
            int p = f * PLACES + i;
            return (hasBit(written[p], cell) ? 1 : 0) + (hasBit(unwritten[p], cell) ? 2 : 0);
        }

        /** RIGHT also where nothing comes and where no USE is. */
        int kind(int f, int i) {
            int used = program.usedCell(locate(f, i));
            int p = f * PLACES + i;
            if (used == NONE || !hasBit(unwritten[p], used)) {
                return RIGHT;
            }
            return hasBit(written[p], used) ? MAYBE : SURE;
        }

        int badUses() {
            int bad = 0;
            for (int f = 0; f < FUNCTIONS; f++) {
                for (int i = 0; i < program.length[f]; i++) {
                    if (kind(f, i) != RIGHT) {
                        bad++;
                    }
                }
            }
            return bad;
        }

        int badUseAt(int k) {
            int bad = 0;
            for (int f = 0; f < FUNCTIONS; f++) {
                for (int i = 0; i < program.length[f]; i++) {
                    if (kind(f, i) != RIGHT) {
                        if (bad == k) {
                            return locate(f, i);
                        }
                        bad++;
                    }
                }
            }
            return NONE;
        }

        void tellKinds(int[] kinds) {
            for (int f = 0; f < FUNCTIONS; f++) {
                for (int i = 0; i < program.length[f]; i++) {
                    kinds[locate(f, i)] = kind(f, i);
                }
            }
        }

        boolean hasKinds(int[] kinds) {
            for (int f = 0; f < FUNCTIONS; f++) {
                for (int i = 0; i < program.length[f]; i++) {
                    if (kinds[locate(f, i)] != kind(f, i)) {
                        return false;
                    }
                }
            }
            return true;
        }

        private void forget() {
            for (int p = 0; p < FUNCTIONS * PLACES; p++) {
                written[p] = 0;
                unwritten[p] = 0;
                due[p] = false;
            }
            for (int f = 0; f < FUNCTIONS; f++) {
                inWritten[f] = 0;
                inUnwritten[f] = 0;
                outWritten[f] = 0;
                outUnwritten[f] = 0;
            }
            anyDue = false;
        }

        private void come(int f, int w, int u) {
            inWritten[f] |= w;
            inUnwritten[f] |= u;
            int set = setAhead[f];
            int unset = unsetAhead[f];
            join(f, 0, (w | set) & ~unset, (u & ~set) | unset);
        }

        private void join(int f, int i, int w, int u) {
            int to = i < 0 || i > program.length[f] ? program.length[f] : i;
            int p = f * PLACES + to;
            if ((w & ~written[p]) != 0 || (u & ~unwritten[p]) != 0) {
                written[p] |= w;
                unwritten[p] |= u;
                due[p] = true;
                anyDue = true;
            }
        }

        private void takeOn(int f, int i) {
            int p = f * PLACES + i;
            due[p] = false;
            int w = written[p];
            int u = unwritten[p];
            int at = locate(f, i);
            if (i >= program.length[f] || program.op[at] == RETURN) {
                leave(f, w, u);
                return;
            }
            switch (program.op[at]) {
                case SKIP:
                    join(f, i + 1, w, u);
                    join(f, i + 1 + program.b[at], w, u);
                    break;
                case CALL:
                    come(program.a[at], w, u);
                    join(f, i + 1, outWritten[program.a[at]], outUnwritten[program.a[at]]);
                    break;
                default:
                    nextWritten = w;
                    nextUnwritten = u;
                    fill(at);
                    join(f, i + 1, nextWritten, nextUnwritten);
                    break;
            }
        }

        private void leave(int f, int w, int u) {
            if ((w & ~outWritten[f]) == 0 && (u & ~outUnwritten[f]) == 0) {
                return;
            }
            outWritten[f] |= w;
            outUnwritten[f] |= u;
            for (int g = 0; g < FUNCTIONS; g++) {
                for (int i = 0; i < program.length[g]; i++) {
                    int at = locate(g, i);
                    if (program.op[at] == CALL && program.a[at] == f && isComeTo(g, i)) {
                        due[g * PLACES + i] = true;
                        anyDue = true;
                    }
                }
            }
        }

        private boolean isComeTo(int f, int i) {
            int p = f * PLACES + i;
            return (written[p] | unwritten[p]) != 0;
        }

        private void fill(int at) {
            int a = program.a[at];
            int b = program.b[at];
            switch (program.op[at]) {
                case SET:
                case READ:
                    fillRow(a, 1, true);
                    break;
                case OUTSIDE:
                    fillRow(a, b, true);
                    break;
                case FREE:
                    fillRow(a, b, freeWrites);
                    break;
                case COPY:
                    copyRow(a, b, program.c[at]);
                    break;
                case ADD:
                    add(a, b);
                    break;
                case STORE:
                    store(a, b, program.d[at]);
                    break;
                case LOAD:
                    load(a, b, program.c[at]);
                    break;
                default:
                    break;
            }
        }

        private void fillRow(int first, int n, boolean isWritten) {
            int row = rowOf(first, n);
            nextWritten = isWritten ? nextWritten | row : nextWritten & ~row;
            nextUnwritten = isWritten ? nextUnwritten & ~row : nextUnwritten | row;
        }

        private void copyRow(int to, int from, int n) {
            nextWritten = withRowCopied(nextWritten, to, from, n);
            nextUnwritten = withRowCopied(nextUnwritten, to, from, n);
        }

        private void add(int a, int b) {
            boolean mayBeWritten = hasBit(nextWritten, a) && hasBit(nextWritten, b);
            boolean mayBeNot = hasBit(nextUnwritten, a) || hasBit(nextUnwritten, b);
            nextWritten = withBit(nextWritten, a, mayBeWritten);
            nextUnwritten = withBit(nextUnwritten, a, mayBeNot);
        }

        private void store(int a, int n, int from) {
            int row = rowOf(a, n);
            int stays = n == 1 ? ~row : ALL_CELLS;
            nextWritten = (nextWritten & stays) | (hasBit(nextWritten, from) ? row : 0);
            nextUnwritten = (nextUnwritten & stays) | (hasBit(nextUnwritten, from) ? row : 0);
        }

        private void load(int a, int b, int n) {
            int row = rowOf(b, n);
            boolean mayBeWritten = (nextWritten & row) != 0;
            boolean mayBeNot = (nextUnwritten & row) != 0;
            nextWritten = withBit(nextWritten, a, mayBeWritten);
            nextUnwritten = withBit(nextUnwritten, a, mayBeNot);
        }
    }

    /**
     * Looks for the cheapest MENDS. Whether a cell may be unwritten somewhere hangs on single cells ahead
     * of it alone (never on two at once), so ways from one MEND to the next can be followed one by one,
     * and a set of MENDS is enough if it cuts every way from the program's begin or a FREE to a USE.
     */
    private static final class Mender {
        private final Program program;
        private final Flow plain;
        private final Flow other;
        private final int[] function = new int[MOST_MENDS];
        private final int[] cell = new int[MOST_MENDS];
        private final int[] waysTo = new int[MOST_MENDS];
        private int mends;
        private int straightToUse;
        private int firstMends;
        private boolean cannotBeCut;
        final int[] keptFunction = new int[MOST_MENDS];
        final int[] keptCell = new int[MOST_MENDS];
        int keptCount = 0;

        Mender(Program program, Flow plain, Flow other) {
            this.program = program;
            this.plain = plain;
            this.other = other;
        }

        /** Lists the MENDS that COUNT, by plain as THE FLOW of the program; false with too many of them. */
        boolean gather() {
            mends = 0;
            for (int f = 0; f < FUNCTIONS; f++) {
                int unwrittenAlone = plain.inUnwritten[f] & ~plain.inWritten[f];
                for (int k = 0; k < CELLS; k++) {
                    if (hasBit(unwrittenAlone, k) && leads(f, k)) {
                        if (mends >= MOST_MENDS) {
                            return false;
                        }
                        function[mends] = f;
                        cell[mends] = k;
                        mends++;
                    }
                }
            }
            return true;
        }

        /** The least COST of a set of the gathered MENDS that is enough; NONE without one. */
        int find(int[] coins) {
            followWays();
            int set = cheapest(coins);
            if (set == NONE) {
                return NONE;
            }
            keep(set);
            return costOf(set, coins);
        }

        boolean canBeDone() {
            for (int f = 0; f < FUNCTIONS; f++) {
                int more = keptAt(f);
                if (more > 0 && (program.length[f] + more > MOST_INSTRUCTIONS || program.skipsBelowZero(f))) {
                    return false;
                }
            }
            return keptCount > 0;
        }

        void putSets() {
            for (int k = keptCount - 1; k >= 0; k--) {
                program.putSetAhead(keptFunction[k], keptCell[k]);
            }
        }

        private int keptAt(int f) {
            int kept = 0;
            for (int k = 0; k < keptCount; k++) {
                if (keptFunction[k] == f) {
                    kept++;
                }
            }
            return kept;
        }

        private boolean leads(int f, int k) {
            other.takePlain();
            other.unsetAtBegin(f, k);
            other.follow(0, 0);
            return other.badUses() > 0;
        }

        private void followWays() {
            doAllMends();
            other.follow(0, ALL_CELLS);
            firstMends = mendsComeTo();
            cannotBeCut = other.badUses() > 0;
            straightToUse = 0;
            for (int k = 0; k < mends; k++) {
                doAllMends();
                other.unsetAtBegin(function[k], cell[k]);
                other.follow(0, 0);
                waysTo[k] = mendsComeTo();
                straightToUse = withBit(straightToUse, k, other.badUses() > 0);
            }
        }

        private void doAllMends() {
            other.takePlain();
            for (int k = 0; k < mends; k++) {
                other.setAtBegin(function[k], cell[k]);
            }
        }

        private int mendsComeTo() {
            int set = 0;
            for (int k = 0; k < mends; k++) {
                set = withBit(set, k, hasBit(other.inUnwritten[function[k]], cell[k]));
            }
            return set;
        }

        private int cheapest(int[] coins) {
            if (cannotBeCut) {
                return NONE;
            }
            int best = NONE;
            int least = MOST_MENDS * MOST_COINS + 1;
            for (int set = 0; set < 1 << mends; set++) {
                int its = costOf(set, coins);
                if (its < least && cutsAllWays(set)) {
                    best = set;
                    least = its;
                }
            }
            return best;
        }

        private int costOf(int set, int[] coins) {
            int sum = 0;
            for (int k = 0; k < mends; k++) {
                if (hasBit(set, k)) {
                    sum += coins[function[k]];
                }
            }
            return sum;
        }

        private boolean cutsAllWays(int set) {
            int open = firstMends & ~set;
            for (int round = 0; round < mends; round++) {
                for (int k = 0; k < mends; k++) {
                    if (hasBit(open, k)) {
                        open |= waysTo[k] & ~set;
                    }
                }
            }
            return (open & straightToUse) == 0;
        }

        private void keep(int set) {
            keptCount = 0;
            for (int k = 0; k < mends; k++) {
                if (hasBit(set, k)) {
                    keptFunction[keptCount] = function[k];
                    keptCell[keptCount] = cell[k];
                    keptCount++;
                }
            }
        }
    }
}
