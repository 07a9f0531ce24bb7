/** Promise 1: construction and the start. */
public final class Promise01Test {
    private static final Due due = new Due();

    public static void main(String[] args) {
        clamps();
        startsEmpty();
        entriesAtTheStart();
        silentBeforeSealing();
        silentQueriesChangeNothing();
        due.end();
    }

    private static void clamps() {
        for (int locks : Programs.NUMBERS) {
            int want = locks < 2 ? 2 : locks > 8 ? 8 : locks;
            due.same("locks taken of " + locks, acceptedLocks(new LockLevelTypes(locks, 2)), want);
            due.same("locks with a level of " + locks, levelledLocks(new LockLevelTypes(locks, 2)), want);
        }
        for (int threads : Programs.NUMBERS) {
            int want = threads < 1 ? 1 : threads > 4 ? 4 : threads;
            due.same("threads taken of " + threads, acceptedThreads(new LockLevelTypes(3, threads)), want);
            due.same("threads run of " + threads, runThreads(new LockLevelTypes(3, threads)), want);
        }
        due.same("locks of both MIN_VALUE",
            acceptedLocks(new LockLevelTypes(Integer.MIN_VALUE, Integer.MIN_VALUE)), 2);
        due.same("threads of both MAX_VALUE",
            acceptedThreads(new LockLevelTypes(Integer.MAX_VALUE, Integer.MAX_VALUE)), 4);
        due.same("locks where threads is 1", acceptedLocks(new LockLevelTypes(8, 1)), 8);
        due.same("threads where locks is 2", acceptedThreads(new LockLevelTypes(2, 4)), 4);
    }

    private static int acceptedLocks(LockLevelTypes x) {
        int count = 0;
        for (int lock = 0; lock < 12; lock++) {
            if (x.emit(lock % 8, LockLevelTypes.OP_ACQ, lock) >= 0) count++;
        }
        return count;
    }

    private static int levelledLocks(LockLevelTypes x) {
        x.check();
        int count = 0;
        for (int lock = 0; lock < 12; lock++) {
            if (x.level(lock) == 0) count++;
        }
        return count;
    }

    private static int acceptedThreads(LockLevelTypes x) {
        int count = 0;
        for (int thread = 0; thread < 12; thread++) {
            if (x.setEntry(thread, 0)) count++;
        }
        return count;
    }

    private static int runThreads(LockLevelTypes x) {
        x.check();
        int count = 0;
        for (int thread = 0; thread < 12; thread++) {
            if (x.soloLength(thread) == 0) count++;
        }
        return count;
    }

    private static void startsEmpty() {
        for (int proc = 0; proc < 8; proc++) {
            LockLevelTypes x = new LockLevelTypes(2, 1);
            x.setEntry(0, proc);
            due.same("check of the empty program", x.check(), LockLevelTypes.ACCEPT);
            due.same("soloLength of empty procedure " + proc, x.soloLength(0), 0);
            due.same("frameProc of empty procedure " + proc, x.frameProc(0), -1);
        }
        LockLevelTypes x = new LockLevelTypes(2, 1);
        for (int i = 0; i < 32; i++) {
            due.same("instruction " + i + " of 32", x.emit(i / 4, LockLevelTypes.OP_NOP, 0), i % 4);
        }
    }

    private static void entriesAtTheStart() {
        LockLevelTypes x = Programs.sealed(2, 4, "N", "N N", "N N N", "N N N N", "N N N N N");
        for (int thread = 0; thread < 4; thread++) {
            due.same("soloLength(" + thread + ")", x.soloLength(thread), thread + 1);
            due.same("frameProc(" + thread + ")", x.frameProc(thread), thread);
            due.same("framePc(" + thread + ")", x.framePc(thread), 0);
        }
    }

    private static void silentBeforeSealing() {
        asksBeforeSealing("empty", new LockLevelTypes(2, 1));
        asksBeforeSealing("largest", new LockLevelTypes(8, 4));
        LockLevelTypes x = deadlockable();
        x.setEntry(0, 1);
        x.setEntry(1, 0);
        asksBeforeSealing("written", x);
    }

    private static void asksBeforeSealing(String name, LockLevelTypes x) {
        for (int n : Programs.NUMBERS) {
            String of = "(" + n + ") of the " + name + " one";
            due.same("holder" + of, x.holder(n), -1);
            due.same("holdCount" + of, x.holdCount(n), 0);
            due.same("frameProc" + of, x.frameProc(n), -1);
            due.same("framePc" + of, x.framePc(n), -1);
            due.same("waitsFor" + of, x.waitsFor(n), -1);
            due.same("level" + of, x.level(n), -1);
            due.same("soloLength" + of, x.soloLength(n), -1);
            due.same("step" + of, x.step(n), LockLevelTypes.STEP_BAD);
            for (int m : Programs.NUMBERS) {
                due.no("order(" + m + ", .)" + of, x.order(m, n));
                due.same("run(" + m + ", .)" + of, x.run(m, n), -1);
            }
        }
        due.no("deadlocked of the " + name + " one", x.deadlocked());
        due.no("restart of the " + name + " one", x.restart());
        due.same("cycleLock of the " + name + " one", x.cycleLock(), -1);
    }

    private static void silentQueriesChangeNothing() {
        LockLevelTypes asked = deadlockable();
        asksBeforeSealing("asked", asked);
        due.same("emit after the queries", asked.emit(0, LockLevelTypes.OP_NOP, 0), 4);
        due.yes("setEntry after the queries", asked.setEntry(0, 0));
        LockLevelTypes quiet = deadlockable();
        quiet.emit(0, LockLevelTypes.OP_NOP, 0);
        due.same("check after the queries", asked.check(), quiet.check());
        due.same("all after the queries", Programs.all(asked), Programs.all(quiet));
    }

    private static LockLevelTypes deadlockable() {
        return Programs.make(2, 2, "A0 A1 R1 R0", "A1 A0 R0 R1");
    }
}
