/** Promise 10: cycleLock. */
public final class Promise10Test {
    private static final Due due = new Due();

    public static void main(String[] args) {
        smallestOnACycle();
        everyPairOfLocks();
        longCycles();
        otherVerdicts();
        changesNothing();
        due.end();
    }

    private static void lowest(int want, int locks, int threads, String... procs) {
        LockLevelTypes x = Programs.make(locks, threads, procs);
        String name = String.join(" | ", procs);
        due.same("cycleLock before check of " + name, x.cycleLock(), -1);
        due.same("check of " + name, x.check(), want < 0 ? LockLevelTypes.ACCEPT : LockLevelTypes.REJECT_CYCLE);
        due.same("cycleLock of " + name, x.cycleLock(), want);
    }

    private static void smallestOnACycle() {
        lowest(0, 2, 2, "A0 A1", "A1 A0");
        lowest(1, 3, 2, "A1 A2", "A2 A1");
        // Lock 0 leads to the cycle, but is not on it.
        lowest(1, 3, 3, "A1 A2", "A2 A1", "A0 A1");
        // The cycle leads to lock 0, which is not on it.
        lowest(1, 3, 3, "A1 A2", "A2 A1", "A2 A0");
        // Lock 2 lies between two cycles.
        lowest(3, 7, 4, "A3 A4 R3 A3", "A4 A2", "A2 A5", "A5 A6 R5 A5");
        // The smallest lock is on the cycle found second.
        lowest(2, 7, 2, "A6 A3 R6 A6", "A5 A2 R5 A5");
        lowest(2, 7, 2, "A5 A2 R5 A5", "A6 A3 R6 A6");
        // Two cycles that share lock 4.
        lowest(1, 6, 2, "A4 A5 R4 A4", "A4 A1 R4 A4");
        lowest(-1, 3, 3, "A0 A1", "A1 A2", "A0 A2");
    }

    private static void everyPairOfLocks() {
        for (int a = 0; a < 8; a++) {
            for (int b = 0; b < 8; b++) {
                if (a != b) {
                    lowest(Math.min(a, b), 8, 2, "A" + a + " A" + b, "A" + b + " A" + a);
                }
            }
        }
    }

    /** Bare chains that close at their end: each edge is from one lock to the next alone. */
    private static void longCycles() {
        int[][] ways = {
            {0, 1, 2, 3, 4, 5, 6, 7}, {7, 6, 5, 4, 3, 2, 1, 0}, {3, 7, 0, 5, 1, 6, 2, 4}, {6, 3, 5, 2, 7, 4}, {5, 7, 3, 6}, {4, 6, 2}
        };
        for (int[] way : ways) {
            int lowest = 7;
            LockLevelTypes closed = new LockLevelTypes(8, 1);
            LockLevelTypes open = new LockLevelTypes(8, 1);
            for (LockLevelTypes x : new LockLevelTypes[] {closed, open}) {
                Programs.load(x, 0, "A" + way[0] + " C1 C2 C3 C4");
                for (int i = 1; i < way.length; i++) {
                    Programs.load(x, (i + 1) / 2, "A" + way[i] + " R" + way[i - 1]);
                }
            }
            for (int lock : way) {
                lowest = Math.min(lowest, lock);
            }
            Programs.load(closed, 4, "A" + way[0]);
            due.same("closed chain of " + way.length, closed.check(), LockLevelTypes.REJECT_CYCLE);
            due.same("cycleLock of a closed chain of " + way.length, closed.cycleLock(), lowest);
            due.same("open chain of " + way.length, open.check(), LockLevelTypes.ACCEPT);
            due.same("cycleLock of an open chain of " + way.length, open.cycleLock(), -1);
        }
    }

    private static void otherVerdicts() {
        LockLevelTypes tooLong = Programs.make(4, 2, "N C5", "A0 A1 R0 A0");
        Programs.loadLong(tooLong);
        due.same("check of a long run with a cycle", tooLong.check(), LockLevelTypes.REJECT_LONG);
        due.same("cycleLock under a long run", tooLong.cycleLock(), -1);
        LockLevelTypes empty = new LockLevelTypes(2, 1);
        empty.check();
        due.same("cycleLock of nothing", empty.cycleLock(), -1);
    }

    private static void changesNothing() {
        LockLevelTypes x = Programs.sealed(3, 2, "A2 A1 N", "A1 A2 N");
        Programs.steps(x, "01");
        String before = Programs.all(x);
        x.cycleLock();
        x.cycleLock();
        due.same("all after cycleLock", Programs.all(x), before);
        x.run(0x11111111, 64);
        due.same("cycleLock in a deadlock", x.cycleLock(), 1);
        x.restart();
        due.same("cycleLock after restart", x.cycleLock(), 1);
    }
}
