/** Promise 12: holder and holdCount. */
public final class Promise12Test {
    private static final Due due = new Due();

    public static void main(String[] args) {
        everyThreadAndLock();
        passedOn();
        deepCounts();
        outOfRange();
        changeNothing();
        due.end();
    }

    private static void held(LockLevelTypes x, int lock, int holder, int count) {
        due.same("holder(" + lock + ")", x.holder(lock), holder);
        due.same("holdCount(" + lock + ")", x.holdCount(lock), count);
    }

    private static void everyThreadAndLock() {
        for (int thread = 0; thread < 4; thread++) {
            for (int lock = 0; lock < 8; lock++) {
                LockLevelTypes x = new LockLevelTypes(8, 4);
                Programs.load(x, thread, "A" + lock + " A" + lock + " R" + lock + " R" + lock + " N");
                held(x, lock, -1, 0);
                x.check();
                int[] counts = {0, 1, 2, 1, 0, 0};
                for (int count : counts) {
                    for (int other = 0; other < 8; other++) {
                        boolean taken = other == lock && count > 0;
                        held(x, other, taken ? thread : -1, taken ? count : 0);
                    }
                    x.step(thread);
                }
            }
        }
    }

    private static void passedOn() {
        LockLevelTypes x = Programs.sealed(2, 3, "A0 A0 R0 R0", "A0 R0", "R0 A1 A1 R0");
        x.step(0);
        x.step(0);
        held(x, 0, 0, 2);
        x.step(1);
        held(x, 0, 0, 2);
        x.step(2);
        held(x, 0, 0, 2);
        x.step(0);
        held(x, 0, 0, 1);
        x.step(0);
        held(x, 0, -1, 0);
        x.step(1);
        held(x, 0, 1, 1);
        x.run(0xAAAAAAAA, 3);
        held(x, 0, 1, 1);
        held(x, 1, 2, 2);
        due.same("the holder of lock 1 is done", x.frameProc(2), -1);
        x.restart();
        held(x, 0, -1, 0);
        held(x, 1, -1, 0);
    }

    private static void deepCounts() {
        LockLevelTypes x = Programs.sealed(2, 2, "C1 C1 C1 C1 C1 C1 C1 C1", "C2 C2 C2 C2 C2 C2 C2 C2", "A1 A1 A1 A1 A1 A1 A1 A1");
        due.same("steps", x.run(0, 584), 584);
        held(x, 1, 0, 512);
        held(x, 0, -1, 0);
    }

    private static void outOfRange() {
        for (int locks = 2; locks <= 8; locks++) {
            LockLevelTypes x = new LockLevelTypes(locks, 1);
            for (int lock = 0; lock < locks; lock++) {
                x.emit(0, LockLevelTypes.OP_ACQ, lock);
            }
            for (int lock : Programs.NUMBERS) {
                held(x, lock, -1, 0);
            }
            x.check();
            for (int lock : Programs.NUMBERS) {
                held(x, lock, -1, 0);
            }
            x.run(0, 8);
            for (int lock : Programs.NUMBERS) {
                boolean inside = lock >= 0 && lock < locks;
                held(x, lock, inside ? 0 : -1, inside ? 1 : 0);
            }
        }
    }

    private static void changeNothing() {
        LockLevelTypes x = Programs.sealed(3, 2, "A0 A0 A1", "A1 A2 N");
        Programs.steps(x, "0011");
        String before = Programs.all(x);
        for (int lock : Programs.NUMBERS) {
            x.holder(lock);
            x.holdCount(lock);
        }
        due.same("all after holder and holdCount", Programs.all(x), before);
    }
}
