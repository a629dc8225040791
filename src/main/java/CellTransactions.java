import java.util.Arrays;

/** Memory transactions on six cells; what each call must do is told in ../shared/DOC.md. */
public final class CellTransactions {
    public static final int NO_SUCH_INDEX = -1;
    public static final int BAD_VALUE = -2;
    public static final int NOT_POSSIBLE = -3;
    public static final int FULL = -4;
    public static final int NONE = -9;
    public static final int READY = 0, WAITING = 1, DONE = 2, FAILED = 3;
    public static final int WENT_ON = 0, COMMITTED = 1, RESTARTED = 2, WAITS = 3, FAILS = 4;

    private static final int CELLS = 6;
    private static final int MAX_THREADS = 3;
    private static final int MAX_DEPTH = 3;
    private static final int MAX_TEXT = 60;
    private static final int MAX_SIGN = 255;
    private static final int MAX_VALUE = 99;
    private static final int MAX_INVARIANTS = 4;
    private static final int MAX_REMEMBERED = 14;
    private static final int MAX_RUN_STEPS = 60;
    private static final int MAX_COMMANDS = 4;
    private static final int COMMAND_BASE = 1000;
    private static final int MAX_OBSERVATIONS = 4;
    private static final int SAVE_SLOTS = 2;

    /** Added to values in answers, so that none of them looks like an error. */
    private static final int ANSWER_SHIFT = 100;

    private final SetupText text = new SetupText();
    private final Program[] programs = new Program[MAX_THREADS];
    private final World present;
    private final History history;
    private final World[] saved = new World[SAVE_SLOTS];
    private final boolean[] slotFilled = new boolean[SAVE_SLOTS];
    private final World scriptWorld;
    private final Observations observations = new Observations();
    private final Schedules schedules;

    public CellTransactions() {
        for (int t = 0; t < MAX_THREADS; t++) {
            programs[t] = new Program();
        }
        present = new World(programs);
        history = new History(programs);
        for (int slot = 0; slot < SAVE_SLOTS; slot++) {
            saved[slot] = new World(programs);
        }
        scriptWorld = new World(programs);
        schedules = new Schedules(programs);
        present.addThread(1);
    }

    // ---- setup text

    public int append(int c) {
        if (c < 0 || c > MAX_SIGN) {
            return BAD_VALUE;
        }
        return text.add((char) c) ? text.length : FULL;
    }

    public int clearText() {
        int before = text.length;
        text.length = 0;
        return before;
    }

    public int errorPosition() {
        return text.firstError();
    }

    public int load() {
        if (text.firstError() != NONE) {
            return NOT_POSSIBLE;
        }
        present.clear();
        text.fill(present, programs);
        history.forgetAll();
        for (int slot = 0; slot < SAVE_SLOTS; slot++) {
            slotFilled[slot] = false;
        }
        return present.threads;
    }

    // ---- reading the state

    public int value(int c) {
        return isCell(c) ? present.values[c] + ANSWER_SHIFT : NO_SUCH_INDEX;
    }

    public int version(int c) {
        return isCell(c) ? present.versions[c] : NO_SUCH_INDEX;
    }

    public int threadCount() {
        return present.threads;
    }

    public int state(int t) {
        return present.hasThread(t) ? present.workers[t].condition : NO_SUCH_INDEX;
    }

    public int position(int t) {
        return present.hasThread(t) ? present.workers[t].next : NO_SUCH_INDEX;
    }

    public int accumulator(int t) {
        return present.hasThread(t) ? present.workers[t].sum + ANSWER_SHIFT : NO_SUCH_INDEX;
    }

    public int seenValue(int t, int c) {
        if (!present.hasThread(t) || !isCell(c)) {
            return NO_SUCH_INDEX;
        }
        return present.valueFor(present.workers[t], c) + ANSWER_SHIFT;
    }

    public int readSet(int t) {
        return present.hasThread(t) ? present.workers[t].reads.cells : NO_SUCH_INDEX;
    }

    public int writeSet(int t) {
        return present.hasThread(t) ? present.workers[t].writes.cells : NO_SUCH_INDEX;
    }

    public int openBlocks(int t) {
        return present.hasThread(t) ? present.workers[t].openCount : NO_SUCH_INDEX;
    }

    public int runsLeft(int t) {
        return present.hasThread(t) ? present.workers[t].runs : NO_SUCH_INDEX;
    }

    public int restarts(int t) {
        return present.hasThread(t) ? present.workers[t].timesRestarted : NO_SUCH_INDEX;
    }

    // ---- actions

    public int step(int t) {
        if (!present.hasThread(t)) {
            return NO_SUCH_INDEX;
        }
        if (present.workers[t].condition != READY) {
            return NOT_POSSIBLE;
        }
        history.remember(present);
        return present.advance(present.workers[t]);
    }

    public int run(int t) {
        if (!present.hasThread(t)) {
            return NO_SUCH_INDEX;
        }
        if (present.workers[t].condition != READY) {
            return NOT_POSSIBLE;
        }
        history.remember(present);
        int steps = 0;
        int result = WENT_ON;
        while (steps < MAX_RUN_STEPS && (result == WENT_ON || result == RESTARTED)) {
            result = present.advance(present.workers[t]);
            steps++;
        }
        return steps;
    }

    public int setCell(int c, int v) {
        if (!isCell(c)) {
            return NO_SUCH_INDEX;
        }
        if (!isValue(v)) {
            return BAD_VALUE;
        }
        history.remember(present);
        present.store(c, v);
        return present.versions[c];
    }

    public int addInvariant(int i, int j, int v) {
        if (!isCell(i) || !isCell(j)) {
            return NO_SUCH_INDEX;
        }
        if (!isValue(v)) {
            return BAD_VALUE;
        }
        if (present.invariants >= MAX_INVARIANTS) {
            return FULL;
        }
        history.remember(present);
        present.demand(i, j, v);
        return present.invariants;
    }

    public int undo() {
        return history.takeBack(present) ? history.count : NOT_POSSIBLE;
    }

    // ---- serial schedules

    public int outcomeCount() {
        schedules.explore(present);
        return schedules.outcomes.size;
    }

    public int possibleOutcomes() {
        schedules.explore(present);
        int possible = 0;
        for (int k = 0; k < schedules.outcomes.size && k < KeySet.ROOM; k++) {
            if (observations.allow(schedules.outcomes.keys[k])) {
                possible++;
            }
        }
        return possible;
    }

    public int canDeadlock() {
        schedules.explore(present);
        for (int k = 0; k < schedules.outcomes.size && k < KeySet.ROOM; k++) {
            if ((schedules.outcomes.keys[k] & Schedules.ALL_BLOCKED) != 0) {
                return 1;
            }
        }
        return 0;
    }

    public int greatestOutcome(int c) {
        if (!isCell(c)) {
            return NO_SUCH_INDEX;
        }
        schedules.explore(present);
        int greatest = -MAX_VALUE;
        for (int k = 0; k < schedules.outcomes.size && k < KeySet.ROOM; k++) {
            greatest = Math.max(greatest, Schedules.cellValue(schedules.outcomes.keys[k], c));
        }
        return greatest + ANSWER_SHIFT;
    }

    // ---- scripts, observations

    public int runScript(int n, long script) {
        if (n < 1 || n > MAX_COMMANDS || script < 0) {
            return BAD_VALUE;
        }
        long divisor = 1;
        for (int k = 1; k < n; k++) {
            divisor *= COMMAND_BASE;
        }
        if (script / COMMAND_BASE >= divisor) {
            return BAD_VALUE;
        }
        scriptWorld.copyFrom(present);
        for (int k = 0; k < n && divisor > 0; k++) {
            int command = (int) (script / divisor % COMMAND_BASE);
            if (!commandSucceeds(command / 100, command / 10 % 10, command % 10)) {
                return k;
            }
            divisor /= COMMAND_BASE;
        }
        return NONE;
    }

    public int observe(int c, int v) {
        if (!isCell(c)) {
            return NO_SUCH_INDEX;
        }
        if (!isValue(v)) {
            return BAD_VALUE;
        }
        observations.add(c, v);
        return observations.count;
    }

    // ---- save slots

    public int save(int slot) {
        if (slot < 0 || slot >= SAVE_SLOTS) {
            return NO_SUCH_INDEX;
        }
        saved[slot].copyFrom(present);
        slotFilled[slot] = true;
        return present.threadsDone();
    }

    public int restore(int slot) {
        if (slot < 0 || slot >= SAVE_SLOTS) {
            return NO_SUCH_INDEX;
        }
        if (!slotFilled[slot]) {
            return NOT_POSSIBLE;
        }
        present.copyFrom(saved[slot]);
        history.forgetAll();
        return present.threadsDone();
    }

    private boolean commandSucceeds(int kind, int index, int number) {
        switch (kind) {
            case 1:
                return scriptWorld.hasThread(index) && number > 0 && stepsThrough(scriptWorld.workers[index], number);
            case 2:
                return scriptWorld.hasThread(index) && scriptWorld.workers[index].condition == number;
            case 3:
                return isCell(index) && scriptWorld.values[index] == number;
            case 4:
                return isCell(index) && scriptWorld.versions[index] == number;
            case 5:
                return scriptWorld.hasThread(index) && scriptWorld.workers[index].timesRestarted == number;
            default:
                return false;
        }
    }

    private boolean stepsThrough(Worker worker, int steps) {
        for (int k = 0; k < steps; k++) {
            if (worker.condition != READY) {
                return false;
            }
            scriptWorld.advance(worker);
        }
        return true;
    }

    private static boolean isCell(int c) {
        return c >= 0 && c < CELLS;
    }

    private static boolean isValue(int v) {
        return v >= -MAX_VALUE && v <= MAX_VALUE;
    }

    private static int clamp(int v) {
        return Math.max(-MAX_VALUE, Math.min(MAX_VALUE, v));
    }

    /** The text buffer, and what it says when it is a complete setup. */
    private static final class SetupText {
        final char[] signs = new char[MAX_TEXT];
        int length;
        final SetupCheck check = new SetupCheck();

        boolean add(char sign) {
            if (length >= MAX_TEXT) {
                return false;
            }
            signs[length] = sign;
            length++;
            return true;
        }

        int firstError() {
            check.begin();
            for (int at = 0; at < length && at < MAX_TEXT; at++) {
                if (!check.takes(signs[at])) {
                    return at;
                }
            }
            return check.isComplete() ? NONE : length;
        }

        /** Only for a complete setup: each sign is trusted to stand where the check wants it. */
        void fill(World world, Program[] programs) {
            for (int c = 0; c < CELLS; c++) {
                world.values[c] = digitAt(1 + c);
            }
            int at = 1 + CELLS;
            for (int t = 0; t < MAX_THREADS && t < programs.length && at < length; t++) {
                int runs = digitAt(at + 1);
                at = fillProgram(programs[t], at + 2);
                world.addThread(runs);
            }
        }

        /** Answers the index behind the program's full stop. */
        int fillProgram(Program program, int from) {
            program.clear();
            int at = from;
            while (at < length && at < MAX_TEXT && signs[at] != '.') {
                char sign = signs[at];
                at++;
                int number = 0;
                if (SetupCheck.wantsCell(sign) || SetupCheck.wantsNumber(sign)) {
                    number = digitAt(at);
                    at++;
                }
                program.add(sign, number);
            }
            return at + 1;
        }

        int digitAt(int at) {
            return at >= 0 && at < length && at < MAX_TEXT ? signs[at] - '0' : 0;
        }
    }

    /** Reads signs one by one, and tells of each whether a setup can still begin so. */
    private static final class SetupCheck {
        static final int LETTER_M = 0, VALUES = 1, LETTER_T = 2, RUNS = 3, TOKENS = 4, CELL = 5, NUMBER = 6;

        int expected;
        int valuesRead;
        int threadsRead;
        int depth;
        /** For each open bracket the sign that must be met next on its level. */
        final char[] awaited = new char[MAX_DEPTH];

        void begin() {
            expected = LETTER_M;
            valuesRead = 0;
            threadsRead = 0;
            depth = 0;
        }

        boolean isComplete() {
            return expected == LETTER_T && threadsRead > 0;
        }

        boolean takes(char sign) {
            switch (expected) {
                case LETTER_M:
                    expected = VALUES;
                    return sign == 'M';
                case VALUES:
                    valuesRead++;
                    expected = valuesRead < CELLS ? VALUES : LETTER_T;
                    return sign >= '0' && sign <= '9';
                case LETTER_T:
                    expected = RUNS;
                    return sign == 't' && threadsRead < MAX_THREADS;
                case RUNS:
                    expected = TOKENS;
                    return sign == '1' || sign == '2';
                case CELL:
                    expected = TOKENS;
                    return sign >= '0' && sign < '0' + CELLS;
                case NUMBER:
                    expected = TOKENS;
                    return sign >= '0' && sign <= '9';
                default:
                    return takesToken(sign);
            }
        }

        boolean takesToken(char sign) {
            if (wantsCell(sign)) {
                expected = CELL;
                return true;
            }
            if (wantsNumber(sign)) {
                expected = NUMBER;
                return true;
            }
            switch (sign) {
                case '!':
                case 'x':
                    return true;
                case '(':
                    return opens('|');
                case '{':
                    return opens('}');
                case '|':
                    return closes('|') && opens(')');
                case ')':
                case '}':
                    return closes(sign);
                case '.':
                    expected = LETTER_T;
                    threadsRead++;
                    return depth == 0;
                default:
                    return false;
            }
        }

        boolean opens(char closing) {
            if (depth < 0 || depth >= MAX_DEPTH) {
                return false;
            }
            awaited[depth] = closing;
            depth++;
            return true;
        }

        boolean closes(char sign) {
            if (depth < 1 || depth > MAX_DEPTH || awaited[depth - 1] != sign) {
                return false;
            }
            depth--;
            return true;
        }

        static boolean wantsCell(char sign) {
            return sign == 'r' || sign == 'w';
        }

        static boolean wantsNumber(char sign) {
            return sign == '+' || sign == '-' || sign == '?';
        }
    }

    /** The tokens of one thread. All states share them, as only load changes them. */
    private static final class Program {
        final char[] signs = new char[MAX_TEXT];
        final int[] numbers = new int[MAX_TEXT];
        /** Of a ( its |, of a | its ), of a { its }. */
        final int[] partners = new int[MAX_TEXT];
        int length;
        final int[] unmatched = new int[MAX_DEPTH];
        int depth;

        void clear() {
            length = 0;
            depth = 0;
        }

        void add(char sign, int number) {
            if (length >= MAX_TEXT) {
                return;
            }
            if (sign == '|' || sign == ')' || sign == '}') {
                matchLast();
            }
            if (sign == '(' || sign == '|' || sign == '{') {
                leaveUnmatched();
            }
            signs[length] = sign;
            numbers[length] = number;
            length++;
        }

        void matchLast() {
            if (depth >= 1 && depth <= MAX_DEPTH) {
                depth--;
                int opening = unmatched[depth];
                if (opening >= 0 && opening < MAX_TEXT) {
                    partners[opening] = length;
                }
            }
        }

        void leaveUnmatched() {
            if (depth >= 0 && depth < MAX_DEPTH) {
                unmatched[depth] = length;
                depth++;
            }
        }

        boolean has(int token) {
            return token >= 0 && token < length && token < MAX_TEXT;
        }

        /** The first token behind the sign that ends what this token begins. */
        int behindPartner(int token) {
            return has(token) ? partners[token] + 1 : length;
        }
    }

    /** A set of cells with a number for each: versions in a read log, values in a write log. */
    private static final class CellLog {
        int cells;
        final int[] numbers = new int[CELLS];

        boolean holds(int c) {
            return (cells >> c & 1) == 1;
        }

        void put(int c, int number) {
            if (isCell(c)) {
                cells |= 1 << c;
                numbers[c] = number;
            }
        }

        void copyFrom(CellLog other) {
            cells = other.cells;
            for (int c = 0; c < CELLS; c++) {
                numbers[c] = other.numbers[c];
            }
        }
    }

    /** An open alternative or nested block, with what is remembered to go back to. */
    private static final class OpenBlock {
        char sign;
        boolean inSecondBranch;
        /** The token to go on with when what is remembered has come back. */
        int behind;
        int sum;
        final CellLog writes = new CellLog();

        void copyFrom(OpenBlock other) {
            sign = other.sign;
            inSecondBranch = other.inSecondBranch;
            behind = other.behind;
            sum = other.sum;
            writes.copyFrom(other.writes);
        }
    }

    /** A thread and its present transaction. */
    private static final class Worker {
        final Program program;
        int condition;
        int runs;
        int timesRestarted;
        int sum;
        int next;
        final CellLog reads = new CellLog();
        final CellLog writes = new CellLog();
        final OpenBlock[] open = new OpenBlock[MAX_DEPTH];
        int openCount;

        Worker(Program program) {
            this.program = program;
            for (int k = 0; k < MAX_DEPTH; k++) {
                open[k] = new OpenBlock();
            }
        }

        /** Leaves an empty transaction behind: one that starts, or the nothing of a thread that has ended. */
        void become(int newCondition) {
            condition = newCondition;
            sum = 0;
            next = 0;
            reads.cells = 0;
            writes.cells = 0;
            openCount = 0;
        }

        void startAgain() {
            timesRestarted++;
            become(READY);
        }

        void openBlock(char sign) {
            if (openCount >= 0 && openCount < MAX_DEPTH) {
                OpenBlock block = open[openCount];
                block.sign = sign;
                block.inSecondBranch = false;
                block.behind = program.behindPartner(next);
                block.sum = sum;
                block.writes.copyFrom(writes);
                openCount++;
            }
        }

        void closeBlock() {
            openCount = Math.max(0, openCount - 1);
        }

        /** Goes back to the innermost open block of this kind that is in no second branch; tells which, or -1. */
        int goBack(char sign) {
            for (int k = Math.min(openCount, MAX_DEPTH) - 1; k >= 0; k--) {
                OpenBlock block = open[k];
                if (block.sign == sign && !block.inSecondBranch) {
                    sum = block.sum;
                    writes.copyFrom(block.writes);
                    next = block.behind;
                    return k;
                }
            }
            return -1;
        }

        void copyFrom(Worker other) {
            condition = other.condition;
            runs = other.runs;
            timesRestarted = other.timesRestarted;
            sum = other.sum;
            next = other.next;
            reads.copyFrom(other.reads);
            writes.copyFrom(other.writes);
            openCount = other.openCount;
            for (int k = 0; k < MAX_DEPTH; k++) {
                open[k].copyFrom(other.open[k]);
            }
        }
    }

    /** One state: the cells, the invariants and the threads. */
    private static final class World {
        final int[] values = new int[CELLS];
        final int[] versions = new int[CELLS];
        final Worker[] workers = new Worker[MAX_THREADS];
        int threads;
        final int[] firstCells = new int[MAX_INVARIANTS];
        final int[] secondCells = new int[MAX_INVARIANTS];
        final int[] leastSums = new int[MAX_INVARIANTS];
        int invariants;

        World(Program[] programs) {
            for (int t = 0; t < MAX_THREADS && t < programs.length; t++) {
                workers[t] = new Worker(programs[t]);
            }
        }

        void clear() {
            Arrays.fill(values, 0);
            Arrays.fill(versions, 0);
            threads = 0;
            invariants = 0;
        }

        void addThread(int runs) {
            if (threads >= 0 && threads < MAX_THREADS) {
                Worker worker = workers[threads];
                worker.runs = runs;
                worker.timesRestarted = 0;
                worker.become(READY);
                threads++;
            }
        }

        boolean hasThread(int t) {
            return t >= 0 && t < threads && t < MAX_THREADS;
        }

        int threadsDone() {
            int done = 0;
            for (int t = 0; t < threads && t < MAX_THREADS; t++) {
                if (workers[t].condition == DONE) {
                    done++;
                }
            }
            return done;
        }

        void demand(int i, int j, int least) {
            if (invariants >= 0 && invariants < MAX_INVARIANTS) {
                firstCells[invariants] = i;
                secondCells[invariants] = j;
                leastSums[invariants] = least;
                invariants++;
            }
        }

        int valueFor(Worker worker, int c) {
            if (!isCell(c)) {
                return 0;
            }
            return worker.writes.holds(c) ? worker.writes.numbers[c] : values[c];
        }

        void store(int c, int v) {
            if (!isCell(c)) {
                return;
            }
            values[c] = v;
            versions[c]++;
            for (int t = 0; t < threads && t < MAX_THREADS; t++) {
                if (workers[t].condition == WAITING && workers[t].reads.holds(c)) {
                    workers[t].startAgain();
                }
            }
        }

        /** One token of a READY thread, with all that follows from it. */
        int advance(Worker worker) {
            int result = WENT_ON;
            if (worker.program.has(worker.next)) {
                result = execute(worker, worker.program.signs[worker.next], worker.program.numbers[worker.next]);
            }
            if (result == WENT_ON && !worker.program.has(worker.next)) {
                result = commit(worker);
            }
            return result;
        }

        int execute(Worker worker, char sign, int number) {
            switch (sign) {
                case 'r':
                    read(worker, number);
                    break;
                case 'w':
                    worker.writes.put(number, worker.sum);
                    break;
                case '+':
                    worker.sum = clamp(worker.sum + number);
                    break;
                case '-':
                    worker.sum = clamp(worker.sum - number);
                    break;
                case '?':
                    if (worker.sum < number) {
                        return retry(worker);
                    }
                    break;
                case '!':
                    return retry(worker);
                case 'x':
                    return abandon(worker);
                case '(':
                case '{':
                    worker.openBlock(sign);
                    break;
                case '|':
                    worker.closeBlock();
                    worker.next = worker.program.behindPartner(worker.next);
                    return WENT_ON;
                default:
                    worker.closeBlock();
                    break;
            }
            worker.next++;
            return WENT_ON;
        }

        void read(Worker worker, int c) {
            if (!isCell(c)) {
                return;
            }
            worker.sum = valueFor(worker, c);
            if (!worker.writes.holds(c) && !worker.reads.holds(c)) {
                worker.reads.put(c, versions[c]);
            }
        }

        int retry(Worker worker) {
            int place = worker.goBack('(');
            if (place >= 0 && place < MAX_DEPTH) {
                worker.open[place].inSecondBranch = true;
                worker.openCount = place + 1;
                return WENT_ON;
            }
            if (!readsAreCurrent(worker)) {
                worker.startAgain();
                return RESTARTED;
            }
            // The logs stay: they tell later which changes wake this thread.
            worker.condition = WAITING;
            return WAITS;
        }

        int abandon(Worker worker) {
            int place = worker.goBack('{');
            if (place >= 0) {
                worker.openCount = place;
                return WENT_ON;
            }
            worker.become(FAILED);
            return FAILS;
        }

        int commit(Worker worker) {
            if (!readsAreCurrent(worker)) {
                worker.startAgain();
                return RESTARTED;
            }
            if (!invariantsWouldHold(worker)) {
                worker.become(FAILED);
                return FAILS;
            }
            for (int c = 0; c < CELLS; c++) {
                if (worker.writes.holds(c)) {
                    store(c, worker.writes.numbers[c]);
                }
            }
            worker.runs--;
            worker.become(worker.runs > 0 ? READY : DONE);
            return COMMITTED;
        }

        boolean readsAreCurrent(Worker worker) {
            for (int c = 0; c < CELLS; c++) {
                if (worker.reads.holds(c) && worker.reads.numbers[c] != versions[c]) {
                    return false;
                }
            }
            return true;
        }

        boolean invariantsWouldHold(Worker worker) {
            for (int k = 0; k < invariants && k < MAX_INVARIANTS; k++) {
                // The sum is a demand's measure and no value, so it is not clamped.
                if (valueFor(worker, firstCells[k]) + valueFor(worker, secondCells[k]) < leastSums[k]) {
                    return false;
                }
            }
            return true;
        }

        void copyFrom(World other) {
            System.arraycopy(other.values, 0, values, 0, CELLS);
            System.arraycopy(other.versions, 0, versions, 0, CELLS);
            threads = other.threads;
            for (int t = 0; t < MAX_THREADS; t++) {
                workers[t].copyFrom(other.workers[t]);
            }
            System.arraycopy(other.firstCells, 0, firstCells, 0, MAX_INVARIANTS);
            System.arraycopy(other.secondCells, 0, secondCells, 0, MAX_INVARIANTS);
            System.arraycopy(other.leastSums, 0, leastSums, 0, MAX_INVARIANTS);
            invariants = other.invariants;
        }
    }

    /** The states before the last actions, in a ring so that the oldest is written over. */
    private static final class History {
        final World[] ring = new World[MAX_REMEMBERED];
        int count;
        int nextPlace;

        History(Program[] programs) {
            for (int k = 0; k < MAX_REMEMBERED; k++) {
                ring[k] = new World(programs);
            }
        }

        void remember(World world) {
            if (nextPlace < 0 || nextPlace >= MAX_REMEMBERED) {
                return;
            }
            ring[nextPlace].copyFrom(world);
            nextPlace = nextPlace + 1 < MAX_REMEMBERED ? nextPlace + 1 : 0;
            count = Math.min(count + 1, MAX_REMEMBERED);
        }

        boolean takeBack(World world) {
            int place = nextPlace > 0 ? nextPlace - 1 : MAX_REMEMBERED - 1;
            if (count < 1 || place >= MAX_REMEMBERED) {
                return false;
            }
            world.copyFrom(ring[place]);
            nextPlace = place;
            count--;
            return true;
        }

        void forgetAll() {
            count = 0;
        }
    }

    /** The last observations, in a ring so that the oldest is written over. */
    private static final class Observations {
        final int[] cells = new int[MAX_OBSERVATIONS];
        final int[] values = new int[MAX_OBSERVATIONS];
        int count;
        int nextPlace;

        void add(int c, int v) {
            if (nextPlace < 0 || nextPlace >= MAX_OBSERVATIONS) {
                return;
            }
            cells[nextPlace] = c;
            values[nextPlace] = v;
            nextPlace = nextPlace + 1 < MAX_OBSERVATIONS ? nextPlace + 1 : 0;
            count = Math.min(count + 1, MAX_OBSERVATIONS);
        }

        boolean allow(long outcome) {
            for (int k = 0; k < count && k < MAX_OBSERVATIONS; k++) {
                if (Schedules.cellValue(outcome, cells[k]) != values[k]) {
                    return false;
                }
            }
            return true;
        }
    }

    /** A set of keys in the order of their coming, and a table that finds each by its hash. */
    private static final class KeySet {
        /**
         * Threads with two runs each commit in at most 271 different orders, and each thread with runs left can have
         * failed, be blocked or neither: that makes 1359 points at most.
         */
        static final int ROOM = 1359;
        static final int TABLE_BITS = 11;
        static final int TABLE_SIZE = 1 << TABLE_BITS;
        static final int TABLE_MASK = TABLE_SIZE - 1;

        final long[] keys = new long[ROOM];
        int size;
        /** One more than the index of a key; 0 where there is none. */
        final int[] table = new int[TABLE_SIZE];

        void clear() {
            size = 0;
            Arrays.fill(table, 0);
        }

        void add(long key) {
            int at = (int) ((key * 0x9E3779B97F4A7C15L) >>> (64 - TABLE_BITS));
            for (int tries = 0; tries < TABLE_SIZE; tries++) {
                int place = (at + tries) & TABLE_MASK;
                int held = table[place];
                if (held < 1 || held > ROOM) {
                    insert(place, key);
                    return;
                }
                if (keys[held - 1] == key) {
                    return;
                }
            }
        }

        void insert(int at, long key) {
            if (size < ROOM && at >= 0 && at < TABLE_SIZE) {
                keys[size] = key;
                size++;
                table[at] = size;
            }
        }
    }

    /**
     * Follows all serial schedules from a state, each point that they can reach only once.
     *
     * <p>A point is one number, so that equal points are equal numbers: eight bits for each cell, two for the runs that
     * each thread has left, one for each thread that has failed and one for each that is blocked. A point at which a
     * schedule ends is an outcome when the bits of the runs are taken out.
     */
    private static final class Schedules {
        static final int BITS_OF_CELL = 8;
        static final int RUNS_AT = BITS_OF_CELL * CELLS;
        static final int FAILED_AT = RUNS_AT + 2 * MAX_THREADS;
        static final int BLOCKED_AT = FAILED_AT + MAX_THREADS;
        static final long ALL_VALUES = (1L << RUNS_AT) - 1;
        static final long ALL_RUNS = (1L << FAILED_AT) - (1L << RUNS_AT);
        static final long ALL_BLOCKED = (1L << (BLOCKED_AT + MAX_THREADS)) - (1L << BLOCKED_AT);

        final World world;
        final KeySet points = new KeySet();
        final KeySet outcomes = new KeySet();

        Schedules(Program[] programs) {
            world = new World(programs);
        }

        void explore(World start) {
            points.clear();
            outcomes.clear();
            world.copyFrom(start);
            points.add(firstPoint());
            for (int k = 0; k < points.size && k < KeySet.ROOM; k++) {
                long point = points.keys[k];
                boolean ended = true;
                for (int t = 0; t < world.threads && t < MAX_THREADS; t++) {
                    if (canRun(point, t)) {
                        points.add(afterTransaction(point, t));
                        ended = false;
                    }
                }
                if (ended) {
                    outcomes.add(point & ~ALL_RUNS);
                }
            }
        }

        long firstPoint() {
            long point = valueBits(world.values);
            for (int t = 0; t < world.threads && t < MAX_THREADS; t++) {
                if (world.workers[t].condition == FAILED) {
                    point |= failedBit(t);
                } else {
                    point |= runBits(world.workers[t].runs, t);
                }
            }
            return point;
        }

        long afterTransaction(long point, int t) {
            if (!world.hasThread(t)) {
                return point;
            }
            Worker worker = world.workers[t];
            prepare(worker, point, t);
            int result = WENT_ON;
            // Alone, a transaction never restarts, and no token comes twice.
            for (int steps = 0; steps < MAX_TEXT && result == WENT_ON; steps++) {
                result = world.advance(worker);
            }
            if (result == WAITS) {
                return point | blockedBit(t);
            }
            if (result == COMMITTED) {
                return afterCommit(point, t);
            }
            return point | failedBit(t);
        }

        void prepare(Worker worker, long point, int t) {
            for (int c = 0; c < CELLS; c++) {
                world.values[c] = cellValue(point, c);
                world.versions[c] = 0;
            }
            worker.runs = runsAt(point, t);
            worker.become(READY);
        }

        long afterCommit(long point, int t) {
            long rest = (point & ~ALL_VALUES) - runBits(1, t);
            for (int c = 0; c < CELLS; c++) {
                if (world.versions[c] > 0) {
                    rest &= ~ALL_BLOCKED;
                }
            }
            return rest | valueBits(world.values);
        }

        static boolean canRun(long point, int t) {
            return runsAt(point, t) > 0 && (point & (failedBit(t) | blockedBit(t))) == 0;
        }

        static int runsAt(long point, int t) {
            return (int) (point >> (RUNS_AT + 2 * t) & 3);
        }

        static long runBits(int runs, int t) {
            return (long) runs << (RUNS_AT + 2 * t);
        }

        static long failedBit(int t) {
            return 1L << (FAILED_AT + t);
        }

        static long blockedBit(int t) {
            return 1L << (BLOCKED_AT + t);
        }

        static long valueBits(int[] values) {
            long bits = 0;
            for (int c = 0; c < CELLS && c < values.length; c++) {
                bits |= (long) (values[c] + MAX_VALUE) << (BITS_OF_CELL * c);
            }
            return bits;
        }

        static int cellValue(long outcome, int c) {
            return (int) (outcome >> (BITS_OF_CELL * c) & 255) - MAX_VALUE;
        }
    }
}
