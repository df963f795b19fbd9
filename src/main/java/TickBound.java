import java.util.Arrays;

/**
 * Programs of orders on a small machine: runs of them tick by tick, and bounds that no run goes beyond.
 * The document's promises are numbered; the public methods stand in their order.
 */
public final class TickBound {
    public static final int BAD = -1000000001, NO = -1000000002, FULL = -1000000003, SPENT = -1000000004,
            NONE = -1000000005, NOTHING = -1000000011, KIND = -1000000012, INDEX = -1000000013, SIZE = -1000000014;

    // Places of the machine's row, as is() numbers them.
    private static final int SETS = 0, WAYS = 1, RULE = 2, MISS = 3, WRONG = 4, GUESS = 5, STALL = 6, LONGS = 7;
    private static final int PARTS_OF_MACHINE = 8;
    private static final int BY_AGE = 0, BY_TURN = 1, BY_TREE = 2;
    private static final int GUESS_ALWAYS = 1, GUESS_LAST = 2;

    private static final int ORDER = 0, LOAD = 1, STORE = 2, BRANCH = 3, CALL = 4, LONG = 5, PARTS = 6, BACK = 7;
    private static final int KINDS = 8;
    /** For each kind the one right above it. */
    private static final int[] ABOVE = {-1, ORDER, LOAD, ORDER, BRANCH, ORDER, LONG, CALL};

    private static final int ORDERS_MOST = 28;
    private static final int PLACES_MOST = ORDERS_MOST + 1;
    /** Each order may be a BACK with every place told. */
    private static final int EDGES_MOST = ORDERS_MOST * PLACES_MOST;
    private static final int REGISTERS = 4;
    /** In the place of a register: the address is c alone. */
    private static final int NO_REGISTER = 4;
    private static final int WORDS = 32;
    private static final int LINES = 16;
    private static final int ALL_LINES = (1 << LINES) - 1;
    private static final int RUN_MOST = 600;
    private static final int MIXES_MOST = 600;
    private static final int WAYS_MOST = 4;
    private static final int TURN_MOST = 9;
    private static final int WORKS_MOST = 8;
    private static final int LOCKS_MOST = 8;
    private static final int SHEETS = 4, SLOTS = 6, SHEET_MOST = 32;
    private static final int WAIT_MOST = 60;
    private static final int PROVED_MOST = 2000000000;
    private static final int ABOVE_BOUNDS = 2000000000;

    /** In the place of a told line: a load whose line is not told, an order that asks none. */
    private static final int LINE_OPEN = -1, LINE_NONE = -2;
    private static final int ENDED = 0, ZERO = 1, BEYOND = 2, STRAY = 3, ENDLESS = 4;
    private static final int TELLS_HIT = 0, TELLS_MISS = 1, TELLS_OPEN = 2;
    private static final int HOLDS_NOTHING = 0, HOLDS_ORDER = 1, HOLDS_SHEET = 2, HOLDS_NUMBER = 3;

    private final State now = new State();
    private final State image = new State();
    private boolean imageKept = false;

    private final Tape tape = new Tape();
    private final Stepper stepper = new Stepper(now);
    private final Run latest = new Run();
    /** shown() runs here, so that what the latest run told stays. */
    private final Run trial = new Run();

    private final Flow flow = new Flow(now);
    private final Paths paths = new Paths(now.program, flow.edgeCost);
    /** Whether flow and paths speak of things as they are now. */
    private boolean flowFresh = false, pathsFresh = false;

    private final Sheet[] sheetRows = new Sheet[SHEETS];
    private final Slot[] slotRows = new Slot[SLOTS];
    private final int[] waiting = new int[WAIT_MOST];
    private int waits = 0;

    // ---- the machine

    public TickBound() {
        for (int i = 0; i < SHEETS; i++) {
            sheetRows[i] = new Sheet();
        }
        for (int i = 0; i < SLOTS; i++) {
            slotRows[i] = new Slot();
        }
    }

    public int feed(int a, int b, int c) {
        if (tape.length + 12 > Tape.MOST) {
            return FULL;
        }
        tape.append(a);
        tape.append(b);
        tape.append(c);
        return tape.length;
    }

    public int trim(int n) {
        if (n < 0 || n > tape.length) {
            return BAD;
        }
        tape.length = n;
        return n;
    }

    public int machine() {
        int answer = tape.readMachine(now.machine);
        tape.length = 0;
        if (answer > 0) {
            analysisGoes();
            runGoes();
        }
        return answer;
    }

    public int is(int what) {
        if (what < 0 || what > PARTS_OF_MACHINE) {
            return BAD;
        }
        return what == PARTS_OF_MACHINE ? now.remembers() : now.machine[what];
    }

    public int memory(int address, int v) {
        if (address < 0 || address >= WORDS) {
            return BAD;
        }
        int was = now.memory[address];
        now.memory[address] = v;
        return was;
    }

    public int lock(int line, int on) {
        if (!isLine(line) || on < 0 || on > 1) {
            return BAD;
        }
        int was = now.locked >> line & 1;
        if (was != on) {
            now.locked ^= 1 << line;
            analysisGoes();
        }
        return was;
    }

    // ---- orders

    public int order(int kind, int a, int b, int c) {
        if (!isRightOrder(kind, a, b, c)) {
            return BAD;
        }
        if (now.program.size >= ORDERS_MOST) {
            return FULL;
        }
        now.program.addOrder(kind, a, b, c);
        analysisGoes();
        runGoes();
        return now.program.size - 1;
    }

    public int clear() {
        int were = now.program.size;
        now.program.removeAll();
        analysisGoes();
        runGoes();
        return were;
    }

    public int told(int order, int what) {
        if (!isOrder(order)) {
            return BAD;
        }
        Program program = now.program;
        switch (what) {
            case 0:
                return program.kind[order];
            case 1:
                return program.a[order];
            case 2:
                return program.b[order];
            case 3:
                return program.c[order];
            case 4:
                return program.places[order];
            case 5:
                return program.firstEdge[order + 1] - program.firstEdge[order];
            case 6:
                freshenFlow();
                return flow.cost[order];
            case 7:
                freshenFlow();
                return flow.tells(order);
            default:
                return BAD;
        }
    }

    public int as(int order, int kind) {
        if (!isOrder(order) || !isKind(kind)) {
            return BAD;
        }
        return isUnder(now.program.kind[order], kind) ? now.program.c[order] : KIND;
    }

    public int places(int order, int set) {
        if (!isOrder(order) || set < 0 || set >= 1 << PLACES_MOST) {
            return BAD;
        }
        if (now.program.kind[order] != BACK) {
            return KIND;
        }
        int were = now.program.places[order];
        now.program.places[order] = set;
        now.program.findEdges();
        analysisGoes();
        runGoes();
        return were;
    }

    // ---- runs

    public int run(int input) {
        stepper.walk(input, latest);
        return latest.endedBy;
    }

    public int ran(int what) {
        if (what < 0 || what > 12) {
            return BAD;
        }
        return latest.there ? latest.number(what) : NO;
    }

    public int step(int i, int what) {
        if (i < 0 || what < 0 || what > 1) {
            return BAD;
        }
        if (!latest.there) {
            return NO;
        }
        if (i >= latest.steps) {
            return NONE;
        }
        return what == 0 ? latest.stepOrder[i] : latest.stepTicks[i];
    }

    public int shown(int n, int what) {
        if (n < 0 || n > 7 || what < 0 || what > 1) {
            return BAD;
        }
        int most = NONE;
        int by = NONE;
        for (int input = 0; input < 1 << n; input++) {
            stepper.walk(input, trial);
            if (trial.endedBy == ENDED && trial.kept && trial.ticks > most) {
                most = trial.ticks;
                by = input;
            }
        }
        return what == 0 ? most : by;
    }

    // ---- edges, blocks

    public int edges() {
        return now.program.edgeCount;
    }

    public int edge(int edge, int what) {
        if (!isEdge(edge)) {
            return BAD;
        }
        Program program = now.program;
        switch (what) {
            case 0:
                return program.from[edge];
            case 1:
                return program.to[edge];
            case 2:
                return program.isTurn(edge) ? 1 : 0;
            case 3:
                return program.number[edge];
            case 4:
                freshenFlow();
                return flow.edgeCost[edge];
            default:
                return BAD;
        }
    }

    public int turns(int edge, int n) {
        if (!isEdge(edge) || n != NONE && (n < 0 || n > TURN_MOST)) {
            return BAD;
        }
        if (!now.program.isTurn(edge)) {
            return KIND;
        }
        int was = now.program.number[edge];
        now.program.number[edge] = n;
        pathsFresh = false;
        return was;
    }

    public int blocks() {
        int many = 0;
        for (int k = 0; k < now.program.size; k++) {
            if (now.program.startsBlock(k)) {
                many++;
            }
        }
        return many;
    }

    public int block(int block, int what) {
        if (block < 0 || what < 0 || what > 1) {
            return BAD;
        }
        int first = now.program.blockStart(block);
        if (first >= now.program.size) {
            return BAD;
        }
        return what == 0 ? first : now.program.blockStart(block + 1) - 1;
    }

    // ---- what must, what may be there

    public int age(int order, int line) {
        if (!isOrder(order) || !isLine(line)) {
            return BAD;
        }
        freshenFlow();
        int age = flow.ages[order * LINES + line];
        return age < now.remembers() ? age : NONE;
    }

    public int may(int order, int line) {
        if (!isOrder(order) || !isLine(line)) {
            return BAD;
        }
        freshenFlow();
        return flow.may[order] >> line & 1;
    }

    // ---- bounds

    public int bound() {
        freshenPaths();
        return paths.greatest;
    }

    public int way(int i) {
        if (i < 0) {
            return BAD;
        }
        freshenPaths();
        return paths.greatest < 0 ? paths.greatest : paths.orderOfWay(i);
    }

    public int factor(int order) {
        if (!isOrder(order)) {
            return BAD;
        }
        freshenFlow();
        return flow.factors[order];
    }

    public int shares(int edge) {
        if (!isEdge(edge)) {
            return BAD;
        }
        if (!now.program.isTurn(edge)) {
            return KIND;
        }
        freshenFlow();
        return flow.shareOf(edge);
    }

    public int proves() {
        if (now.program.numberedTurns() < now.program.allTurns()) {
            return NONE;
        }
        freshenFlow();
        int sum = now.program.size > 0 ? flow.factors[0] : 0;
        for (int e = 0; e < now.program.edgeCount; e++) {
            if (now.program.isTurn(e)) {
                sum += flow.shareOf(e) * now.program.number[e];
            }
        }
        return sum;
    }

    public int locks(int k, int what) {
        if (k < 0 || k > LOCKS_MOST || what < 0 || what > 1) {
            return BAD;
        }
        freshenPaths();
        if (paths.greatest < 0) {
            return paths.greatest;
        }
        // More locked lines never make a bound greater. So the least is reached with as many as may be, and where no set
        // of some size reaches it, no lesser one does.
        int of = now.program.toldLines(LOCKS_MOST);
        int size = Math.min(k, Integer.bitCount(of));
        int best = bestLocks(of, size, 0);
        int least = boundIf(best, now.machine[MISS]);
        for (int fewer = size - 1; fewer >= 0; fewer--) {
            int set = bestLocks(of, fewer, least);
            if (boundIf(set, now.machine[MISS]) > least) {
                break;
            }
            best = set;
        }
        return what == 0 ? least : best;
    }

    public int shared(int n, int time) {
        if (n < 1 || n > 9 || time < 0 || time > 99) {
            return BAD;
        }
        return boundIf(now.locked, now.machine[MISS] + (n - 1) * time);
    }

    public int work(int ticks, int period) {
        if (!Works.isRight(ticks) || !Works.isRight(period)) {
            return BAD;
        }
        if (now.works.size >= WORKS_MOST) {
            return FULL;
        }
        now.works.addWork(ticks, period);
        return now.works.size - 1;
    }

    public int answer(int work) {
        if (work < 0 || work >= now.works.size) {
            return BAD;
        }
        return now.works.answerOf(work);
    }

    public int fits() {
        for (int i = 0; i < now.works.size; i++) {
            if (now.works.answerOf(i) == NONE) {
                return i;
            }
        }
        return -1;
    }

    // ---- sheets, slots

    public int sheet(int sheet, int sort, int n) {
        if (!isSheet(sheet) || sort < -1 || sort > 3) {
            return BAD;
        }
        if (sort == -1) {
            sheetRows[sheet].there = false;
            return 0;
        }
        if (n > SHEET_MOST) {
            return BAD;
        }
        if (n < 0) {
            return SIZE;
        }
        sheetRows[sheet].begin(sort, n);
        return n;
    }

    public int mark(int sheet, int place, int v) {
        if (!isSheet(sheet)) {
            return BAD;
        }
        Sheet row = sheetRows[sheet];
        if (!row.there) {
            return NOTHING;
        }
        if (!row.has(place, 1)) {
            return INDEX;
        }
        row.put(place, v);
        return 1;
    }

    public int pour(int sheet, int place, int address, int n) {
        if (!isSheet(sheet) || address < 0 || address >= WORDS || n < 0 || n > WORDS - address) {
            return BAD;
        }
        Sheet row = sheetRows[sheet];
        if (!row.there) {
            return NOTHING;
        }
        if (!row.has(place, n)) {
            return INDEX;
        }
        for (int i = 0; i < n; i++) {
            now.memory[address + i] = (int) row.values[place + i];
        }
        return n;
    }

    public int copy(int from, int place, int to, int at, int many) {
        if (!isSheet(from) || !isSheet(to)) {
            return BAD;
        }
        Sheet source = sheetRows[from];
        Sheet target = sheetRows[to];
        if (!source.there || !target.there) {
            return NOTHING;
        }
        if (source.sort != target.sort) {
            return KIND;
        }
        if (!source.has(place, many) || !target.has(at, many)) {
            return INDEX;
        }
        System.arraycopy(source.values, place, target.values, at, many);
        return many;
    }

    public int lay(int slot, int thing, int k) {
        if (!isSlot(slot) || thing < HOLDS_NOTHING || thing > HOLDS_NUMBER) {
            return BAD;
        }
        if (thing == HOLDS_ORDER && !isOrder(k) || thing == HOLDS_SHEET && !isSheet(k)) {
            return BAD;
        }
        if (thing == HOLDS_SHEET && !sheetRows[k].there) {
            return NOTHING;
        }
        Slot row = slotRows[slot];
        int held = row.holds;
        row.holds = thing;
        if (thing == HOLDS_ORDER) {
            row.holdOrder(now.program, k);
        } else if (thing == HOLDS_SHEET) {
            row.sheet.become(sheetRows[k]);
        }
        return held;
    }

    public int ask(int slot, int kind) {
        if (!isSlot(slot) || !isKind(kind)) {
            return BAD;
        }
        Slot row = slotRows[slot];
        if (row.holds == HOLDS_NOTHING) {
            return NOTHING;
        }
        if (row.holds != HOLDS_ORDER || !isUnder(row.kind, kind)) {
            return KIND;
        }
        boolean lockedLine = row.line >= 0 && (now.locked >> row.line & 1) == 1;
        return costOf(row.kind, now.machine, lockedLine ? 0 : now.machine[MISS]);
    }

    public int item(int slot, int place) {
        if (!isSlot(slot)) {
            return BAD;
        }
        Slot row = slotRows[slot];
        if (row.holds == HOLDS_NOTHING) {
            return NOTHING;
        }
        if (row.holds != HOLDS_SHEET) {
            return KIND;
        }
        return row.sheet.has(place, 1) ? (int) row.sheet.values[place] : INDEX;
    }

    // ---- rows, images

    public int tell(int v) {
        if (waits >= WAIT_MOST) {
            return FULL;
        }
        waiting[waits] = v;
        waits++;
        return waits;
    }

    public int check() {
        int many = waits;
        waits = 0;
        Program program = now.program;
        int turns = program.allTurns();
        if (many != program.size + turns || someBelowZero(program.size, many)) {
            return NO;
        }
        if (program.numberedTurns() < turns) {
            return NONE;
        }
        freshenFlow();
        return provedByWaiting();
    }

    public int record() {
        int many = waits;
        waits = 0;
        if (!latest.there) {
            return NO;
        }
        for (int i = 0; i < many; i++) {
            int step = i / 2;
            if (step >= latest.steps) {
                return 1 + i;
            }
            int due = i % 2 == 0 ? latest.stepOrder[step] : latest.stepTicks[step];
            if (waiting[i] != due) {
                return 1 + i;
            }
        }
        return 0;
    }

    public int keep() {
        image.become(now);
        imageKept = true;
        return image.program.size;
    }

    public int back() {
        if (!imageKept) {
            return NO;
        }
        now.become(image);
        analysisGoes();
        runGoes();
        return now.program.size;
    }

    public int count(int what) {
        switch (what) {
            case 0:
                return now.program.size;
            case 1:
                return now.program.allTurns();
            case 2:
                return now.program.numberedTurns();
            case 3:
                return Integer.bitCount(now.locked);
            case 4:
                return now.works.size;
            case 5:
                return waits;
            case 6:
                return tape.length;
            default:
                return BAD;
        }
    }

    // ---- what the calls above share

    private boolean isOrder(int k) {
        return k >= 0 && k < now.program.size;
    }

    private boolean isEdge(int e) {
        return e >= 0 && e < now.program.edgeCount;
    }

    private static boolean isKind(int kind) {
        return kind >= 0 && kind < KINDS;
    }

    private static boolean isLine(int line) {
        return line >= 0 && line < LINES;
    }

    private static boolean isRegister(int r) {
        return r >= 0 && r < REGISTERS;
    }

    private static boolean isSheet(int sheet) {
        return sheet >= 0 && sheet < SHEETS;
    }

    private static boolean isSlot(int slot) {
        return slot >= 0 && slot < SLOTS;
    }

    private static boolean isSmall(int c) {
        return c >= -999 && c <= 999;
    }

    private static boolean isRightOrder(int kind, int a, int b, int c) {
        if (!isRegister(a)) {
            return false;
        }
        switch (kind) {
            case ORDER:
                return isRegister(b) && isSmall(c);
            case LOAD:
            case STORE:
                return b == NO_REGISTER ? c >= 0 && c < WORDS : isRegister(b) && isSmall(c);
            case BRANCH:
                return b >= 0 && b < PLACES_MOST && isSmall(c);
            case CALL:
                return b >= 0 && b < PLACES_MOST && c == 0;
            case LONG:
            case PARTS:
                return isRegister(b) && isRegister(c);
            case BACK:
                return b == 0 && c == 0;
            default:
                return false;
        }
    }

    /** Whether a kind is another one, or stands under it. */
    private static boolean isUnder(int kind, int other) {
        int k = kind;
        for (int i = 0; i < KINDS && isKind(k); i++) {
            if (k == other) {
                return true;
            }
            k = ABOVE[k];
        }
        return false;
    }

    /** The most ticks of an order without a stall; a load's miss is told, for only the caller knows whether it may be one. */
    private static int costOf(int kind, int[] machine, int missTicks) {
        switch (kind) {
            case LOAD:
                return 1 + missTicks;
            case STORE:
                return 2 + missTicks;
            case BRANCH:
                return 1 + machine[WRONG];
            case CALL:
            case BACK:
                return 2;
            case LONG:
                return 1 + 8 * machine[LONGS];
            case PARTS:
                return 3 + 8 * machine[LONGS];
            default:
                return 1;
        }
    }

    private void analysisGoes() {
        flowFresh = false;
        pathsFresh = false;
    }

    private void runGoes() {
        latest.there = false;
    }

    private void freshenFlow() {
        if (!flowFresh) {
            flow.settle(now.locked, now.machine[MISS]);
            flowFresh = true;
        }
    }

    private void freshenPaths() {
        freshenFlow();
        if (!pathsFresh) {
            paths.solve();
            pathsFresh = true;
        }
    }

    /** The bound with other locked lines or another miss. The rows are used for that, so they are stale behind it. */
    private int boundIf(int locked, int miss) {
        flow.settle(locked, miss);
        paths.solve();
        analysisGoes();
        return paths.greatest;
    }

    /** Of the sets of a size inside another one the first by bits that has the least bound, or one that is low enough. */
    private int bestLocks(int of, int size, int enough) {
        int best = 0;
        int least = ABOVE_BOUNDS;
        int set = 0;
        for (int i = 0; i < 1 << Integer.bitCount(of) && least > enough; i++) {
            if (Integer.bitCount(set) == size) {
                int bound = boundIf(set, now.machine[MISS]);
                if (bound < least) {
                    least = bound;
                    best = set;
                }
            }
            // The next one by bits: a 1 is carried through the places that are not in "of".
            set = (set - of) & of;
        }
        return best;
    }

    private boolean someBelowZero(int first, int end) {
        for (int i = first; i < end; i++) {
            if (waiting[i] < 0) {
                return true;
            }
        }
        return false;
    }

    /** What the numbers that waited prove; they are as many as there are orders and turns. */
    private int provedByWaiting() {
        Program program = now.program;
        long sum = program.size > 0 ? waiting[0] : 0;
        int turn = program.size;
        for (int e = 0; e < program.edgeCount; e++) {
            long left = waiting[program.from[e]];
            if (program.isTurn(e)) {
                left += waiting[turn];
                sum += (long) waiting[turn] * program.number[e];
                turn++;
            }
            long right = program.to[e] < program.size ? waiting[program.to[e]] : 0;
            if (left < right + flow.edgeCost[e]) {
                return -11 - e;
            }
        }
        return sum < 0 || sum > PROVED_MOST ? KIND : (int) sum;
    }

    /** All that an image keeps. */
    private static final class State {
        final int[] machine = {1, 2, BY_AGE, 10, 3, 0, 1, 2};
        final Program program = new Program();
        final int[] memory = new int[WORDS];
        final Works works = new Works();
        /** Bits of lines. */
        int locked = 0;

        void become(State other) {
            System.arraycopy(other.machine, 0, machine, 0, PARTS_OF_MACHINE);
            program.become(other.program);
            System.arraycopy(other.memory, 0, memory, 0, WORDS);
            works.become(other.works);
            locked = other.locked;
        }

        int remembers() {
            if (machine[RULE] == BY_TURN) {
                return 1;
            }
            return machine[RULE] == BY_TREE && machine[WAYS] == WAYS_MOST ? 3 : machine[WAYS];
        }
    }

    /** The text that waits, and the reader of machines in it. */
    private static final class Tape {
        static final int MOST = 96;
        static final int BLANK = 32;

        final byte[] bytes = new byte[MOST];
        int length = 0;
        /** The word or sign that is read: its first byte, the place behind it, and whether it stands right behind a word. */
        int at = 0, end = 0;
        boolean glued = false;
        /** The machine as far as it is read: what is wrong must change nothing. */
        final int[] draft = new int[PARTS_OF_MACHINE];

        void append(int four) {
            for (int shift = 24; shift >= 0 && length < MOST; shift -= 8) {
                bytes[length] = (byte) (four >>> shift);
                length++;
            }
        }

        /** Reads a machine over one that is there: how many parts were told, or what is wrong with the text. */
        int readMachine(int[] machine) {
            System.arraycopy(machine, 0, draft, 0, PARTS_OF_MACHINE);
            end = 0;
            nextWord();
            int told = 0;
            // A ninth part is always one told again.
            for (int parts = 0; parts <= PARTS_OF_MACHINE; parts++) {
                if (parts > 0 && at == length) {
                    return acceptDraft(machine, parts);
                }
                int part = partHere();
                if (part < 0 || (told >> part & 1) == 1) {
                    return -100 - at;
                }
                told |= 1 << part;
                nextWord();
                int value = valueHere(part);
                if (value < 0) {
                    return -100 - at;
                }
                draft[part] = value;
                nextWord();
            }
            return -100 - at;
        }

        private int acceptDraft(int[] machine, int parts) {
            for (int part = 0; part < PARTS_OF_MACHINE; part++) {
                if (!isRightValue(part, draft[part])) {
                    return NO;
                }
            }
            System.arraycopy(draft, 0, machine, 0, PARTS_OF_MACHINE);
            return parts;
        }

        private static boolean isRightValue(int part, int value) {
            switch (part) {
                case SETS:
                case WAYS:
                    return value == 1 || value == 2 || value == 4;
                case MISS:
                    return value <= 99;
                default:
                    return value <= 9;
            }
        }

        private void nextWord() {
            int behind = end;
            at = behind;
            while (at < length && bytes[at] == BLANK) {
                at++;
            }
            glued = at > 0 && at == behind;
            end = at < length ? at + 1 : at;
            if (at < length && isLetter(bytes[at])) {
                while (end < length && isLetter(bytes[end])) {
                    end++;
                }
            } else if (at < length && isDigit(bytes[at])) {
                while (end < length && isDigit(bytes[end])) {
                    end++;
                }
            }
        }

        private static boolean isLetter(int b) {
            return b >= 'a' && b <= 'z';
        }

        private static boolean isDigit(int b) {
            return b >= '0' && b <= '9';
        }

        private boolean wordIs(String text) {
            if (glued || end - at != text.length()) {
                return false;
            }
            for (int i = 0; i < text.length(); i++) {
                if (bytes[at + i] != text.charAt(i)) {
                    return false;
                }
            }
            return true;
        }

        private int partHere() {
            for (int part = 0; part < PARTS_OF_MACHINE; part++) {
                if (wordIs(nameOf(part))) {
                    return part;
                }
            }
            return -1;
        }

        private static String nameOf(int part) {
            switch (part) {
                case SETS:
                    return "sets";
                case WAYS:
                    return "ways";
                case RULE:
                    return "rule";
                case MISS:
                    return "miss";
                case WRONG:
                    return "wrong";
                case GUESS:
                    return "guess";
                case STALL:
                    return "stall";
                default:
                    return "long";
            }
        }

        private int valueHere(int part) {
            if (part == RULE) {
                return oneOf("age", "turn", "tree");
            }
            return part == GUESS ? oneOf("never", "always", "last") : numberHere();
        }

        private int oneOf(String first, String second, String third) {
            if (wordIs(first)) {
                return 0;
            }
            if (wordIs(second)) {
                return 1;
            }
            return wordIs(third) ? 2 : -1;
        }

        private int numberHere() {
            if (glued || at >= length || !isDigit(bytes[at]) || end - at > 3) {
                return -1;
            }
            int value = 0;
            for (int i = at; i < end; i++) {
                value = 10 * value + (bytes[i] - '0');
            }
            return value;
        }
    }

    /** Orders with their edges. */
    private static final class Program {
        int size = 0;
        final int[] kind = new int[ORDERS_MOST];
        final int[] a = new int[ORDERS_MOST];
        final int[] b = new int[ORDERS_MOST];
        final int[] c = new int[ORDERS_MOST];
        final int[] places = new int[ORDERS_MOST];
        /** The line that each asks, as far as it is told. */
        final int[] line = new int[ORDERS_MOST];

        int edgeCount = 0;
        /** Of each order, and of the end. */
        final int[] firstEdge = new int[PLACES_MOST];
        final int[] from = new int[EDGES_MOST];
        final int[] to = new int[EDGES_MOST];
        /** Told numbers of turns; NONE for all other edges. */
        final int[] number = new int[EDGES_MOST];

        void addOrder(int newKind, int newA, int newB, int newC) {
            kind[size] = newKind;
            a[size] = newA;
            b[size] = newB;
            c[size] = newC;
            places[size] = 0;
            line[size] = lineOf(newKind, newB, newC);
            size++;
            findEdges();
        }

        void removeAll() {
            size = 0;
            findEdges();
        }

        void become(Program other) {
            size = other.size;
            System.arraycopy(other.kind, 0, kind, 0, size);
            System.arraycopy(other.a, 0, a, 0, size);
            System.arraycopy(other.b, 0, b, 0, size);
            System.arraycopy(other.c, 0, c, 0, size);
            System.arraycopy(other.places, 0, places, 0, size);
            System.arraycopy(other.line, 0, line, 0, size);
            findEdges();
            System.arraycopy(other.number, 0, number, 0, edgeCount);
        }

        /** Edges anew; told numbers go, for the edges that bore them may be others now. */
        void findEdges() {
            edgeCount = 0;
            for (int k = 0; k < size; k++) {
                firstEdge[k] = edgeCount;
                addEdgesOf(k);
            }
            firstEdge[size] = edgeCount;
        }

        private void addEdgesOf(int k) {
            int on = k + 1;
            int there = Math.min(b[k], size);
            switch (kind[k]) {
                case BRANCH:
                    addEdge(k, Math.min(on, there));
                    if (on != there) {
                        addEdge(k, Math.max(on, there));
                    }
                    break;
                case CALL:
                    addEdge(k, there);
                    break;
                case BACK:
                    addPlaceEdges(k);
                    break;
                default:
                    addEdge(k, on);
                    break;
            }
        }

        private void addPlaceEdges(int k) {
            for (int place = 0; place < size; place++) {
                if ((places[k] >> place & 1) == 1) {
                    addEdge(k, place);
                }
            }
            if (places[k] >> size != 0) {
                addEdge(k, size);
            }
        }

        private void addEdge(int k, int place) {
            from[edgeCount] = k;
            to[edgeCount] = place;
            number[edgeCount] = NONE;
            edgeCount++;
        }

        boolean isTurn(int e) {
            return to[e] <= from[e];
        }

        int allTurns() {
            int many = 0;
            for (int e = 0; e < edgeCount; e++) {
                if (isTurn(e)) {
                    many++;
                }
            }
            return many;
        }

        int numberedTurns() {
            int many = 0;
            for (int e = 0; e < edgeCount; e++) {
                if (number[e] != NONE) {
                    many++;
                }
            }
            return many;
        }

        /** The edge from an order to a place, -1 without one. */
        int edgeBetween(int k, int place) {
            for (int e = firstEdge[k]; e < firstEdge[k + 1]; e++) {
                if (to[e] == place) {
                    return e;
                }
            }
            return -1;
        }

        private static int lineOf(int kind, int b, int c) {
            if (!isUnder(kind, LOAD)) {
                return LINE_NONE;
            }
            return b == NO_REGISTER ? c / 2 : LINE_OPEN;
        }

        /** The least lines that are told in loads, as bits. */
        int toldLines(int most) {
            int told = 0;
            for (int k = 0; k < size; k++) {
                if (line[k] >= 0) {
                    told |= 1 << line[k];
                }
            }
            int least = 0;
            for (int i = 0; i < LINES && Integer.bitCount(least) < most; i++) {
                least |= told & 1 << i;
            }
            return least;
        }

        boolean reads(int k, int register) {
            switch (kind[k]) {
                case ORDER:
                case LOAD:
                    return b[k] == register;
                case STORE:
                    return a[k] == register || b[k] == register;
                case BRANCH:
                case BACK:
                    return a[k] == register;
                case LONG:
                case PARTS:
                    return b[k] == register || c[k] == register;
                default:
                    return false;
            }
        }

        /** Whether an order waits for what the one that came right ahead of it loads. */
        boolean stalls(int ahead, int k) {
            return kind[ahead] == LOAD && reads(k, a[ahead]);
        }

        boolean startsBlock(int k) {
            if (k == 0 || isUnder(kind[k - 1], BRANCH)) {
                return true;
            }
            for (int e = 0; e < edgeCount; e++) {
                if (to[e] == k && from[e] != k - 1) {
                    return true;
                }
            }
            return false;
        }

        /** The first order of a block; the number of orders, if there are not so many. */
        int blockStart(int block) {
            int ahead = 0;
            for (int k = 0; k < size; k++) {
                if (startsBlock(k)) {
                    if (ahead == block) {
                        return k;
                    }
                    ahead++;
                }
            }
            return size;
        }
    }

    /** What one run told. */
    private static final class Run {
        boolean there = false;
        int ticks = 0;
        int steps = 0;
        int hits = 0;
        int misses = 0;
        int wrongs = 0;
        int stalls = 0;
        boolean kept = true;
        int endedAt = 0;
        int endedBy = ENDED;
        final int[] registers = new int[REGISTERS];
        final int[] stepOrder = new int[RUN_MOST];
        final int[] stepTicks = new int[RUN_MOST];

        void begin(int input) {
            there = true;
            ticks = 0;
            steps = 0;
            hits = 0;
            misses = 0;
            wrongs = 0;
            stalls = 0;
            kept = true;
            Arrays.fill(registers, 0);
            registers[0] = input;
        }

        void addStep(int order, int spent) {
            ticks += spent;
            stepOrder[steps] = order;
            stepTicks[steps] = ticks;
            steps++;
        }

        void end(int at, int by) {
            endedAt = at;
            endedBy = by;
        }

        /** As ran() numbers it, 0 .. 12. */
        int number(int what) {
            switch (what) {
                case 0:
                    return ticks;
                case 1:
                    return steps;
                case 2:
                    return hits;
                case 3:
                    return misses;
                case 4:
                    return wrongs;
                case 5:
                    return stalls;
                case 10:
                    return kept ? 1 : 0;
                case 11:
                    return endedAt;
                case 12:
                    return endedBy;
                default:
                    return what >= 6 && what < 6 + REGISTERS ? registers[what - 6] : BAD;
            }
        }
    }

    /** The cache of a run. */
    private static final class Cache {
        static final int EMPTY = -1;
        /** Bits of a set: the first one, then one of each half. */
        static final int BITS = 3;

        int sets = 1;
        int ways = 1;
        int rule = BY_AGE;
        int clock = 0;
        final int[] lines = new int[WAYS_MOST * WAYS_MOST];
        /** By age when a line was asked last, else when it came. */
        final int[] stamps = new int[WAYS_MOST * WAYS_MOST];
        final int[] bits = new int[WAYS_MOST * BITS];

        void begin(int[] machine) {
            sets = machine[SETS];
            ways = machine[WAYS];
            rule = machine[RULE];
            clock = 0;
            Arrays.fill(lines, EMPTY);
            Arrays.fill(bits, 0);
        }

        /** Asks a line: whether it was there. */
        boolean hits(int line) {
            // SETS is 1, 2 or 4: the rest by it is what its mask leaves.
            int set = line & sets - 1;
            int first = set * ways;
            int place = placeOf(first, line);
            boolean hit = place >= 0;
            if (!hit) {
                place = placeToFill(set, first);
                lines[first + place] = line;
            }
            if (!hit || rule == BY_AGE) {
                clock++;
                stamps[first + place] = clock;
            }
            turnBits(set, place);
            return hit;
        }

        private int placeOf(int first, int line) {
            for (int i = 0; i < ways; i++) {
                if (lines[first + i] == line) {
                    return i;
                }
            }
            return -1;
        }

        private int placeToFill(int set, int first) {
            int empty = placeOf(first, EMPTY);
            if (empty >= 0) {
                return empty;
            }
            return rule == BY_TREE ? placeByBits(set * BITS) : placeByStamps(first);
        }

        private int placeByStamps(int first) {
            int oldest = 0;
            for (int i = 1; i < ways; i++) {
                if (stamps[first + i] < stamps[first + oldest]) {
                    oldest = i;
                }
            }
            return oldest;
        }

        private int placeByBits(int bit) {
            if (ways == 1) {
                return 0;
            }
            if (ways == 2) {
                return bits[bit];
            }
            int half = bits[bit];
            return 2 * half + bits[bit + 1 + half];
        }

        private void turnBits(int set, int place) {
            int bit = set * BITS;
            if (ways == 2) {
                bits[bit] = 1 - place;
            } else if (ways == WAYS_MOST) {
                int half = place / 2;
                bits[bit] = 1 - half;
                bits[bit + 1 + half] = 1 - place % 2;
            }
        }
    }

    /** Runs a program, order by order. */
    private static final class Stepper {
        final State state;
        final Program program;
        final Cache cache = new Cache();
        /** The run's own, so that the machine's is as before then. */
        final int[] memory = new int[WORDS];
        /** Bits of branches that went to b when they went last. */
        int went = 0;
        final int[] taken = new int[EDGES_MOST];
        /** Ticks of the order that is performed, its stall not counted. */
        int spent = 0;

        Stepper(State itsState) {
            state = itsState;
            program = itsState.program;
        }

        void walk(int input, Run run) {
            cache.begin(state.machine);
            System.arraycopy(state.memory, 0, memory, 0, WORDS);
            went = 0;
            Arrays.fill(taken, 0, program.edgeCount, 0);
            run.begin(input);
            int ahead = -1;
            int at = 0;
            for (int i = 0; i < RUN_MOST && at < program.size; i++) {
                int next = perform(at, run);
                if (next < 0) {
                    run.addStep(at, 1);
                    run.end(at, -next);
                    return;
                }
                if (ahead >= 0 && program.stalls(ahead, at)) {
                    run.stalls++;
                    spent += state.machine[STALL];
                }
                run.addStep(at, spent);
                next = Math.min(next, program.size);
                takeEdge(at, next, run);
                ahead = at;
                at = next;
            }
            run.end(at, at < program.size ? ENDLESS : ENDED);
        }

        private void takeEdge(int at, int next, Run run) {
            int e = next <= at ? program.edgeBetween(at, next) : -1;
            if (e >= 0) {
                taken[e]++;
                if (program.number[e] != NONE && taken[e] > program.number[e]) {
                    run.kept = false;
                }
            }
        }

        /** Does what an order does: where that leads, or less than 0 by what the run ends. */
        private int perform(int k, Run run) {
            int[] registers = run.registers;
            int a = program.a[k];
            int b = program.b[k];
            spent = 1;
            switch (program.kind[k]) {
                case LOAD:
                case STORE:
                    return performLoad(k, run);
                case BRANCH:
                    return performBranch(k, run);
                case CALL:
                    spent++;
                    registers[a] = k + 1;
                    return b;
                case BACK:
                    spent++;
                    return isToldPlace(program.places[k], registers[a]) ? registers[a] : -STRAY;
                case LONG:
                case PARTS:
                    return performLong(k, run);
                default:
                    registers[a] = registers[b] + program.c[k];
                    return k + 1;
            }
        }

        private static boolean isToldPlace(int places, int place) {
            return place >= 0 && place < PLACES_MOST && (places >> place & 1) == 1;
        }

        private int performLoad(int k, Run run) {
            int a = program.a[k];
            int b = program.b[k];
            int address = b == NO_REGISTER ? program.c[k] : run.registers[b] + program.c[k];
            if (address < 0 || address >= WORDS) {
                return -BEYOND;
            }
            int line = address / 2;
            if ((state.locked >> line & 1) == 1 || cache.hits(line)) {
                run.hits++;
            } else {
                run.misses++;
                spent += state.machine[MISS];
            }
            if (program.kind[k] == STORE) {
                spent++;
                memory[address] = run.registers[a];
            } else {
                run.registers[a] = memory[address];
            }
            return k + 1;
        }

        private int performBranch(int k, Run run) {
            boolean goes = run.registers[program.a[k]] < program.c[k];
            int guess = state.machine[GUESS];
            boolean guessed = guess == GUESS_ALWAYS || guess == GUESS_LAST && (went >> k & 1) == 1;
            if (goes != guessed) {
                run.wrongs++;
                spent += state.machine[WRONG];
            }
            went = goes ? went | 1 << k : went & ~(1 << k);
            return goes ? program.b[k] : k + 1;
        }

        private int performLong(int k, Run run) {
            int left = run.registers[program.b[k]];
            int right = run.registers[program.c[k]];
            spent += state.machine[LONGS] * Integer.bitCount(right & 255);
            if (program.kind[k] == LONG) {
                run.registers[program.a[k]] = left * right;
                return k + 1;
            }
            if (right == 0) {
                return -ZERO;
            }
            spent += 2;
            run.registers[program.a[k]] = left / right;
            return k + 1;
        }
    }

    /** What must and what may be in the cache at each order, and what follows: costs and own factors. */
    private static final class Flow {
        /** Each pass but the last makes something less: a line older (4 times and gone), or one more that may be there. */
        static final int PASSES_MOST = ORDERS_MOST * LINES * (WAYS_MOST + 1) + 1;

        final State state;
        final Program program;
        int sets = 1;
        int remembers = 1;
        int locked = 0;
        /** Of each order and line; as old as the machine remembers: not there. */
        final int[] ages = new int[ORDERS_MOST * LINES];
        final int[] may = new int[ORDERS_MOST];
        final int[] behind = new int[LINES];
        final int[] cost = new int[ORDERS_MOST];
        final int[] edgeCost = new int[EDGES_MOST];
        /** Of each order, and of the end. */
        final int[] factors = new int[PLACES_MOST];

        Flow(State itsState) {
            state = itsState;
            program = itsState.program;
        }

        void settle(int lockedLines, int miss) {
            sets = state.machine[SETS];
            remembers = state.remembers();
            locked = lockedLines;
            Arrays.fill(ages, 0);
            Arrays.fill(ages, 0, LINES, remembers);
            Arrays.fill(may, 0);
            boolean again = true;
            for (int pass = 0; pass < PASSES_MOST && again; pass++) {
                again = false;
                for (int k = 0; k < program.size; k++) {
                    again |= passOn(k);
                }
            }
            settleCosts(miss);
            settleFactors();
        }

        /** Brings what is behind an order to where its edges lead: whether that changed anything there. */
        private boolean passOn(int k) {
            ageLines(k);
            int mayBehind = may[k] | mayCome(k);
            boolean changed = false;
            for (int e = program.firstEdge[k]; e < program.firstEdge[k + 1]; e++) {
                int next = program.to[e];
                if (next < program.size) {
                    changed |= meet(next, mayBehind);
                }
            }
            return changed;
        }

        private boolean meet(int next, int mayBehind) {
            boolean changed = (mayBehind & ~may[next]) != 0;
            may[next] |= mayBehind;
            int first = next * LINES;
            for (int line = 0; line < LINES; line++) {
                if (ages[first + line] < behind[line]) {
                    ages[first + line] = behind[line];
                    changed = true;
                }
            }
            return changed;
        }

        private boolean isLocked(int line) {
            return (locked >> line & 1) == 1;
        }

        private int mayCome(int k) {
            int line = program.line[k];
            if (line < 0) {
                return line == LINE_NONE ? 0 : ALL_LINES;
            }
            return isLocked(line) ? 0 : 1 << line;
        }

        private void ageLines(int k) {
            System.arraycopy(ages, k * LINES, behind, 0, LINES);
            int asked = program.line[k];
            if (asked == LINE_OPEN) {
                ageBelow(remembers, 0, 0);
            } else if (asked >= 0 && !isLocked(asked)) {
                ageBelow(behind[asked], sets - 1, asked);
                behind[asked] = 0;
            }
        }

        /** Lines that are younger than an age, and like another one under a mask, are 1 older. */
        private void ageBelow(int age, int mask, int like) {
            for (int line = 0; line < LINES; line++) {
                if (((line ^ like) & mask) == 0 && behind[line] < age) {
                    behind[line]++;
                }
            }
        }

        /** What a load tells; NONE of other orders. */
        int tells(int k) {
            int line = program.line[k];
            if (line < 0) {
                return line == LINE_NONE ? NONE : TELLS_OPEN;
            }
            if (isLocked(line) || ages[k * LINES + line] < remembers) {
                return TELLS_HIT;
            }
            return (may[k] >> line & 1) == 0 ? TELLS_MISS : TELLS_OPEN;
        }

        private void settleCosts(int miss) {
            for (int k = 0; k < program.size; k++) {
                cost[k] = costOf(program.kind[k], state.machine, tells(k) == TELLS_HIT ? 0 : miss);
            }
            for (int e = 0; e < program.edgeCount; e++) {
                int k = program.from[e];
                int next = program.to[e];
                boolean stalls = next < program.size && program.stalls(k, next);
                edgeCost[e] = cost[k] + (stalls ? state.machine[STALL] : 0);
            }
        }

        private void settleFactors() {
            factors[program.size] = 0;
            for (int k = program.size - 1; k >= 0; k--) {
                int most = 0;
                for (int e = program.firstEdge[k]; e < program.firstEdge[k + 1]; e++) {
                    if (!program.isTurn(e)) {
                        most = Math.max(most, edgeCost[e] + factors[program.to[e]]);
                    }
                }
                factors[k] = most;
            }
        }

        /** The own factor of a turn. */
        int shareOf(int e) {
            return Math.max(0, edgeCost[e] + factors[program.to[e]] - factors[program.from[e]]);
        }
    }

    /**
     * The costliest way by told turns. A mix is one number for how often each turn may still be taken: each turn has a
     * weight in it. Edges that are no turns lead to later orders and turns to lesser mixes, so that all that is asked for
     * is known when mixes rise and orders fall.
     */
    private static final class Paths {
        static final int NO_WAY = -1;
        /** In the place of a weight: no turn, a turn that is never taken. */
        static final int FREE = 0, NEVER = -1;

        /** The bound, or why there is none. */
        int greatest = NONE;
        int mixes = 1;
        final Program program;
        final int[] edgeCost;
        /** Bits of orders, and of the end, that can be come to. */
        int reached = 0;
        final int[] weight = new int[EDGES_MOST];
        /** Of each mix, of each order and the end: the greatest sum from there on. Many objects never need it. */
        int[] best = null;

        Paths(Program itsProgram, int[] itsEdgeCost) {
            program = itsProgram;
            edgeCost = itsEdgeCost;
        }

        void solve() {
            if (program.size == 0) {
                greatest = 0;
                return;
            }
            findReached();
            if (lacksNumberOrPlace()) {
                greatest = NONE;
                return;
            }
            weighTurns();
            if (mixes > MIXES_MOST) {
                greatest = SPENT;
                return;
            }
            if (best == null) {
                best = new int[MIXES_MOST * PLACES_MOST];
            }
            for (int mix = 0; mix < mixes; mix++) {
                solveMix(mix);
            }
            int sum = best[(mixes - 1) * PLACES_MOST];
            greatest = sum == NO_WAY ? NONE : sum;
        }

        private void findReached() {
            reached = 1;
            int before = 0;
            for (int pass = 0; pass < PLACES_MOST && reached != before; pass++) {
                before = reached;
                for (int e = 0; e < program.edgeCount; e++) {
                    if (isReached(program.from[e])) {
                        reached |= 1 << program.to[e];
                    }
                }
            }
        }

        private boolean isReached(int k) {
            return (reached >> k & 1) == 1;
        }

        private boolean lacksNumberOrPlace() {
            for (int k = 0; k < program.size; k++) {
                // Only a BACK without a told place has no edge.
                if (isReached(k) && program.firstEdge[k] == program.firstEdge[k + 1]) {
                    return true;
                }
            }
            for (int e = 0; e < program.edgeCount; e++) {
                if (isReached(program.from[e]) && program.isTurn(e) && program.number[e] == NONE) {
                    return true;
                }
            }
            return false;
        }

        /** Of all turns that have a number, wherever they are; behind more mixes than can be held it is no use to go on. */
        private void weighTurns() {
            mixes = 1;
            for (int e = 0; e < program.edgeCount && mixes <= MIXES_MOST; e++) {
                int number = program.number[e];
                weight[e] = program.isTurn(e) ? NEVER : FREE;
                if (number > 0) {
                    weight[e] = mixes;
                    mixes *= number + 1;
                }
            }
        }

        private void solveMix(int mix) {
            int row = mix * PLACES_MOST;
            best[row + program.size] = 0;
            for (int k = program.size - 1; k >= 0; k--) {
                int most = NO_WAY;
                int end = isReached(k) ? program.firstEdge[k + 1] : 0;
                for (int e = program.firstEdge[k]; e < end; e++) {
                    most = Math.max(most, sumBy(mix, e));
                }
                best[row + k] = most;
            }
        }

        /** The greatest sum that begins with an edge, NO_WAY without one. */
        private int sumBy(int mix, int e) {
            int rest = weight[e] == FREE ? mix : mixBehind(mix, e);
            if (rest < 0) {
                return NO_WAY;
            }
            int sum = best[rest * PLACES_MOST + program.to[e]];
            return sum == NO_WAY ? NO_WAY : sum + edgeCost[e];
        }

        /** The mix behind an edge; -1: it may not be taken any more. */
        private int mixBehind(int mix, int e) {
            if (weight[e] == FREE) {
                return mix;
            }
            int number = program.number[e];
            if (weight[e] == NEVER || number < 1) {
                return -1;
            }
            return mix / weight[e] % (number + 1) > 0 ? mix - weight[e] : -1;
        }

        /** The i-th order of the way, where there is a bound; without orders there is no row of sums. */
        int orderOfWay(int i) {
            if (best == null) {
                return NONE;
            }
            int at = 0;
            int mix = mixes - 1;
            for (int step = 0; step < i && at < program.size; step++) {
                int e = edgeOfWay(mix, at);
                if (e < 0) {
                    return NONE;
                }
                mix = mixBehind(mix, e);
                at = program.to[e];
            }
            return at < program.size ? at : NONE;
        }

        /** Edges stand by where they lead, so the first that reaches the greatest sum is the way's. */
        private int edgeOfWay(int mix, int k) {
            for (int e = program.firstEdge[k]; e < program.firstEdge[k + 1]; e++) {
                if (sumBy(mix, e) == best[mix * PLACES_MOST + k]) {
                    return e;
                }
            }
            return -1;
        }
    }

    /** Works of several ranks on one machine. */
    private static final class Works {
        static final int NUMBER_MOST = 9999;

        int size = 0;
        final int[] ticks = new int[WORKS_MOST];
        final int[] period = new int[WORKS_MOST];

        static boolean isRight(int number) {
            return number >= 1 && number <= NUMBER_MOST;
        }

        void addWork(int newTicks, int newPeriod) {
            ticks[size] = newTicks;
            period[size] = newPeriod;
            size++;
        }

        void become(Works other) {
            size = other.size;
            System.arraycopy(other.ticks, 0, ticks, 0, size);
            System.arraycopy(other.period, 0, period, 0, size);
        }

        /** Rises from what no answer is below, 1 at least each time, so that the first that stays is the least. */
        int answerOf(int work) {
            int answer = ticks[work];
            for (int i = 0; i <= NUMBER_MOST && answer <= period[work]; i++) {
                int needed = ticks[work];
                for (int higher = 0; higher < work; higher++) {
                    if (period[higher] > 0) {
                        needed += ticks[higher] * ((answer + period[higher] - 1) / period[higher]);
                    }
                }
                if (needed == answer) {
                    return answer;
                }
                answer = needed;
            }
            return NONE;
        }
    }

    /** A row of bytes, shorts, ints or longs; all are held as longs. */
    private static final class Sheet {
        boolean there = false;
        int sort = 0;
        int size = 0;
        final long[] values = new long[SHEET_MOST];

        void begin(int newSort, int newSize) {
            there = true;
            sort = newSort;
            size = newSize;
            Arrays.fill(values, 0L);
        }

        void become(Sheet other) {
            there = other.there;
            sort = other.sort;
            size = other.size;
            System.arraycopy(other.values, 0, values, 0, SHEET_MOST);
        }

        /** Whether there are so many places from one on. */
        boolean has(int place, int many) {
            return place >= 0 && many >= 0 && place <= size && many <= size - place;
        }

        void put(int place, int v) {
            if (sort == 0) {
                values[place] = (byte) v;
            } else if (sort == 1) {
                values[place] = (short) v;
            } else {
                values[place] = v;
            }
        }
    }

    /** What a slot holds. A number that it holds is never asked for. */
    private static final class Slot {
        int holds = HOLDS_NOTHING;
        int kind = ORDER;
        /** The line that the order asks, as far as it is told. */
        int line = LINE_NONE;
        final Sheet sheet = new Sheet();

        void holdOrder(Program program, int k) {
            kind = program.kind[k];
            line = program.line[k];
        }
    }
}
