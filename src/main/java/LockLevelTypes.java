/**
 * Decides whether a tiny threaded program keeps to a lock order, and steps its threads under a
 * schedule that the caller chooses.
 */
public final class LockLevelTypes {
    public static final int OP_NOP = 0;
    public static final int OP_ACQ = 1;
    public static final int OP_REL = 2;
    public static final int OP_CALL = 3;

    public static final int PROCS = 8;
    public static final int PROC_CAP = 8;
    public static final int CODE_CAP = 32;
    public static final int SOLO_LIMIT = 512;

    public static final int ERR_SEALED = -1;
    public static final int ERR_PROC = -2;
    public static final int ERR_OP = -3;
    public static final int ERR_ARG = -4;
    public static final int ERR_FULL = -5;

    public static final int ACCEPT = 0;
    public static final int REJECT_CYCLE = 1;
    public static final int REJECT_LONG = 2;

    public static final int STEP_OK = 0;
    public static final int STEP_BLOCKED = 1;
    public static final int STEP_DONE = 2;
    public static final int STEP_BAD = 3;

    private static final int NONE = -1;

    private static final int MIN_LOCKS = 2;
    private static final int MAX_LOCKS = 8;
    private static final int MIN_THREADS = 1;
    private static final int MAX_THREADS = 4;

    private static final int MAX_RUN_STEPS = 1024;
    private static final int SCRIPT_FIELDS = 16;
    private static final int FIELD_BITS = 2;
    private static final int FIELD_MASK = 3;

    // Calls go to higher procedures only, so no stack holds a procedure twice.
    private static final int STACK_CAP = PROCS;

    private static final int CODE_CELLS = PROCS * PROC_CAP;
    private static final int FRAME_CELLS = MAX_THREADS * STACK_CAP;
    private static final int LOCK_PAIRS = MAX_LOCKS * MAX_LOCKS;

    // The clamps keep threadCount at 1 or more, so it is safe as a divisor.
    private final int lockCount;
    private final int threadCount;

    // Instruction i of procedure p is in cell p * PROC_CAP + i.
    private final int[] opcodes = new int[CODE_CELLS];
    private final int[] arguments = new int[CODE_CELLS];
    private final int[] procLengths = new int[PROCS];
    private int codeLength = 0;
    private final int[] entries = new int[MAX_THREADS];

    private boolean sealed = false;
    private int verdict = NONE;
    private int lowestCycleLock = NONE;
    private final int[] soloLengths = new int[MAX_THREADS];
    private final int[] levels = new int[MAX_LOCKS];

    // The pair of locks a, b is in cell a * MAX_LOCKS + b.
    private final boolean[] edges = new boolean[LOCK_PAIRS];
    private final boolean[] paths = new boolean[LOCK_PAIRS];

    // Frame i of thread t, counted from the bottom, is in cell t * STACK_CAP + i.
    private final int[] frameProcs = new int[FRAME_CELLS];
    private final int[] framePcs = new int[FRAME_CELLS];
    private final int[] depths = new int[MAX_THREADS];
    private final int[] holders = new int[MAX_LOCKS];
    private final int[] holdCounts = new int[MAX_LOCKS];

    public LockLevelTypes(int locks, int threads) {
        lockCount = clamp(locks, MIN_LOCKS, MAX_LOCKS);
        threadCount = clamp(threads, MIN_THREADS, MAX_THREADS);
        for (int thread = 0; thread < MAX_THREADS; thread++) {
            entries[thread] = thread;
        }
    }

    public int emit(int proc, int op, int arg) {
        if (sealed) {
            return ERR_SEALED;
        }
        if (!isProc(proc)) {
            return ERR_PROC;
        }
        if (op < OP_NOP || op > OP_CALL) {
            return ERR_OP;
        }
        if (!argumentFits(proc, op, arg)) {
            return ERR_ARG;
        }
        int position = procLengths[proc];
        if (position >= PROC_CAP || codeLength >= CODE_CAP) {
            return ERR_FULL;
        }
        int cell = proc * PROC_CAP + position;
        opcodes[cell] = op;
        arguments[cell] = op == OP_NOP ? 0 : arg;
        procLengths[proc] = position + 1;
        codeLength++;
        return position;
    }

    public boolean setEntry(int thread, int proc) {
        if (sealed || !isThread(thread) || !isProc(proc)) {
            return false;
        }
        entries[thread] = proc;
        return true;
    }

    public int check() {
        if (!sealed) {
            sealed = true;
            for (int thread = 0; thread < threadCount; thread++) {
                soloLengths[thread] = runAlone(thread);
            }
            decideVerdict();
            // The solo runs used the machine's own frames and locks.
            resetMachine();
        }
        return verdict;
    }

    public boolean restart() {
        if (!sealed) {
            return false;
        }
        resetMachine();
        return true;
    }

    public int step(int thread) {
        if (!sealed || !isThread(thread)) {
            return STEP_BAD;
        }
        if (isDone(thread)) {
            return STEP_DONE;
        }
        if (waitsFor(thread) != NONE) {
            return STEP_BLOCKED;
        }
        execute(thread);
        return STEP_OK;
    }

    public int run(int script, int steps) {
        if (!sealed) {
            return NONE;
        }
        int bound = clamp(steps, 0, MAX_RUN_STEPS);
        int executed = 0;
        for (int i = 0; i < bound; i++) {
            int field = (script >>> (FIELD_BITS * (i % SCRIPT_FIELDS))) & FIELD_MASK;
            if (step(field % threadCount) == STEP_OK) {
                executed++;
            }
        }
        return executed;
    }

    public boolean order(int a, int b) {
        return sealed && isLock(a) && isLock(b) && edges[a * MAX_LOCKS + b];
    }

    public int level(int lock) {
        return verdict == ACCEPT && isLock(lock) ? levels[lock] : NONE;
    }

    public int cycleLock() {
        return lowestCycleLock;
    }

    public int soloLength(int thread) {
        return sealed && isThread(thread) ? soloLengths[thread] : NONE;
    }

    public int holder(int lock) {
        return sealed && isLock(lock) ? holders[lock] : NONE;
    }

    public int holdCount(int lock) {
        return sealed && isLock(lock) ? holdCounts[lock] : 0;
    }

    public int frameProc(int thread) {
        return isRunning(thread) ? frameProcs[topFrame(thread)] : NONE;
    }

    public int framePc(int thread) {
        return isRunning(thread) ? framePcs[topFrame(thread)] : NONE;
    }

    public int waitsFor(int thread) {
        if (!isRunning(thread)) {
            return NONE;
        }
        int cell = currentCell(thread);
        if (opcodes[cell] != OP_ACQ) {
            return NONE;
        }
        int owner = holders[arguments[cell]];
        return owner == thread ? NONE : owner;
    }

    public boolean deadlocked() {
        for (int thread = 0; thread < threadCount; thread++) {
            if (waitsForItself(thread)) {
                return true;
            }
        }
        return false;
    }

    private static int clamp(int value, int low, int high) {
        if (value < low) {
            return low;
        }
        return value > high ? high : value;
    }

    private static boolean isProc(int proc) {
        return proc >= 0 && proc < PROCS;
    }

    private boolean isThread(int thread) {
        return thread >= 0 && thread < threadCount;
    }

    private boolean isLock(int lock) {
        return lock >= 0 && lock < lockCount;
    }

    private boolean argumentFits(int proc, int op, int arg) {
        if (op == OP_NOP) {
            return true;
        }
        if (op == OP_CALL) {
            return arg > proc && arg < PROCS;
        }
        return isLock(arg);
    }

    private int runAlone(int thread) {
        freeAllLocks();
        start(thread);
        int executed = 0;
        // One instruction past the limit tells a long run from one that just fits.
        while (executed <= SOLO_LIMIT && !isDone(thread)) {
            addEdges(thread);
            execute(thread);
            executed++;
        }
        return executed;
    }

    private void addEdges(int thread) {
        int cell = currentCell(thread);
        if (opcodes[cell] != OP_ACQ) {
            return;
        }
        int wanted = arguments[cell];
        if (holders[wanted] == thread) {
            return;
        }
        for (int lock = 0; lock < lockCount; lock++) {
            if (holders[lock] == thread) {
                edges[lock * MAX_LOCKS + wanted] = true;
            }
        }
    }

    private void decideVerdict() {
        if (someSoloRunIsLong()) {
            clearEdges();
            verdict = REJECT_LONG;
            return;
        }
        findPaths();
        lowestCycleLock = findLowestCycleLock();
        if (lowestCycleLock != NONE) {
            verdict = REJECT_CYCLE;
            return;
        }
        inferLevels();
        verdict = ACCEPT;
    }

    private boolean someSoloRunIsLong() {
        for (int thread = 0; thread < threadCount; thread++) {
            if (soloLengths[thread] > SOLO_LIMIT) {
                return true;
            }
        }
        return false;
    }

    private void clearEdges() {
        for (int pair = 0; pair < LOCK_PAIRS; pair++) {
            edges[pair] = false;
        }
    }

    private void findPaths() {
        for (int pair = 0; pair < LOCK_PAIRS; pair++) {
            paths[pair] = edges[pair];
        }
        // The lock passed through is the outermost loop: only so does one pass find every path.
        for (int via = 0; via < lockCount; via++) {
            for (int from = 0; from < lockCount; from++) {
                if (paths[from * MAX_LOCKS + via]) {
                    joinPaths(from, via);
                }
            }
        }
    }

    private void joinPaths(int from, int via) {
        for (int to = 0; to < lockCount; to++) {
            if (paths[via * MAX_LOCKS + to]) {
                paths[from * MAX_LOCKS + to] = true;
            }
        }
    }

    private int findLowestCycleLock() {
        for (int lock = 0; lock < lockCount; lock++) {
            if (paths[lock * MAX_LOCKS + lock]) {
                return lock;
            }
        }
        return NONE;
    }

    private void inferLevels() {
        // Without a cycle no path has lockCount edges, so this many rounds settle every level.
        for (int round = 1; round < lockCount; round++) {
            for (int lock = 0; lock < lockCount; lock++) {
                raiseSuccessors(lock);
            }
        }
    }

    private void raiseSuccessors(int lock) {
        int least = levels[lock] + 1;
        for (int next = 0; next < lockCount; next++) {
            if (edges[lock * MAX_LOCKS + next] && levels[next] < least) {
                levels[next] = least;
            }
        }
    }

    private void resetMachine() {
        freeAllLocks();
        for (int thread = 0; thread < threadCount; thread++) {
            start(thread);
        }
    }

    private void freeAllLocks() {
        for (int lock = 0; lock < lockCount; lock++) {
            holders[lock] = NONE;
            holdCounts[lock] = 0;
        }
    }

    private void start(int thread) {
        depths[thread] = 0;
        push(thread, entries[thread]);
        settle(thread);
    }

    private void push(int thread, int proc) {
        int frame = thread * STACK_CAP + depths[thread];
        frameProcs[frame] = proc;
        framePcs[frame] = 0;
        depths[thread]++;
    }

    private void settle(int thread) {
        for (int i = 0; i < STACK_CAP && !isDone(thread); i++) {
            int top = topFrame(thread);
            if (framePcs[top] < procLengths[frameProcs[top]]) {
                return;
            }
            depths[thread]--;
        }
    }

    private boolean isDone(int thread) {
        return depths[thread] == 0;
    }

    private boolean isRunning(int thread) {
        return sealed && isThread(thread) && !isDone(thread);
    }

    // Only a thread that is not done has a top frame and a current instruction: callers look first.
    private int topFrame(int thread) {
        return thread * STACK_CAP + depths[thread] - 1;
    }

    private int currentCell(int thread) {
        int top = topFrame(thread);
        return frameProcs[top] * PROC_CAP + framePcs[top];
    }

    private void execute(int thread) {
        int cell = currentCell(thread);
        int op = opcodes[cell];
        int arg = arguments[cell];
        // The pc moves on before a call pushes its frame, while the caller is still on top.
        framePcs[topFrame(thread)]++;
        if (op == OP_ACQ) {
            acquire(thread, arg);
        } else if (op == OP_REL) {
            release(thread, arg);
        } else if (op == OP_CALL) {
            push(thread, arg);
        }
        settle(thread);
    }

    private void acquire(int thread, int lock) {
        holders[lock] = thread;
        holdCounts[lock]++;
    }

    private void release(int thread, int lock) {
        if (holders[lock] != thread) {
            return;
        }
        holdCounts[lock]--;
        if (holdCounts[lock] == 0) {
            holders[lock] = NONE;
        }
    }

    private boolean waitsForItself(int thread) {
        int reached = waitsFor(thread);
        // A cycle has at most threadCount waits; a longer chain leads into a cycle of others.
        for (int waits = 1; waits < threadCount && reached != thread; waits++) {
            reached = waitsFor(reached);
        }
        return reached == thread;
    }
}
