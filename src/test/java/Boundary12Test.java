/** The boundary cases of promise 12, holder and holdCount, a test for each sentence. */
public final class Boundary12Test {
    public static void main(String[] args) {
        Sentences.run(Boundary12Test::list);
    }

    static void list(Sentences s) {
        s.says("`holder(lock)` answers the machine thread that currently holds `lock`", Boundary12Test::theHolder);
        s.says("or -1 if the lock is free", Boundary12Test::noHolderOfAFreeLock);
        s.says("if `lock` is out of range (not in 0..lockCount-1), or before sealing", Boundary12Test::noHolderOutOfRange);
        s.says("or before sealing", due -> States.answersAlways(due, States.notSealed(), LockLevelTypes::holder, -1));
        s.says("the machine's hold count of `lock`: positive while held", Boundary12Test::positiveWhileHeld);
        s.says("0 when free", Boundary12Test::noCountOfAFreeLock);
        s.says("0 when free, when `lock` is out of range, or before sealing", Boundary12Test::noCountOutOfRange);
        s.says("when `lock` is out of range, or before sealing",
            due -> States.answersAlways(due, States.notSealed(), LockLevelTypes::holdCount, 0));
        s.says("Neither changes anything", due -> States.askingChangesNothing(due, LockLevelTypes::holder));
        s.says("Neither changes anything", due -> States.askingChangesNothing(due, LockLevelTypes::holdCount));
    }

    private static void theHolder(Due due) {
        for (int thread = 0; thread < 4; thread++) {
            for (int lock = 0; lock < 8; lock++) {
                LockLevelTypes x = new LockLevelTypes(8, 4);
                Programs.load(x, thread, "A" + lock);
                x.check();
                x.step(thread);
                for (int other = 0; other < 8; other++) {
                    due.same("holder(" + other + ")", x.holder(other), other == lock ? thread : -1);
                }
            }
        }
        LockLevelTypes passed = Programs.sealed(2, 3, "A0 R0", "A0 R0", "A0");
        int[] holders = {0, 0, -1, 1, -1, 2, 2};
        String schedule = "0101122";
        for (int i = 0; i < holders.length; i++) {
            passed.step(schedule.charAt(i) - '0');
            due.same("holder after step " + i, passed.holder(0), holders[i]);
        }
        due.same("the holder is done", passed.frameProc(2), -1);
    }

    private static void noHolderOfAFreeLock(Due due) {
        LockLevelTypes x = Programs.sealed(2, 2, "R1 A1 A1 R1 R1 R1 A1 R1", "R1 N");
        int[] holders = {-1, 0, 0, 0, -1, -1, 0, -1};
        due.same("holder at the start", x.holder(1), -1);
        x.step(1);
        due.same("holder after another's release", x.holder(1), -1);
        for (int i = 0; i < holders.length; i++) {
            x.step(0);
            due.same("holder after step " + i, x.holder(1), holders[i]);
        }
    }

    /** All locks of an object with that many are held, so that a lock too far would show. */
    private static LockLevelTypes allHeld(int locks) {
        LockLevelTypes x = new LockLevelTypes(locks, 1);
        for (int lock = 0; lock < locks; lock++) {
            x.emit(0, LockLevelTypes.OP_ACQ, lock);
        }
        x.check();
        x.run(0, 8);
        return x;
    }

    private static void noHolderOutOfRange(Due due) {
        for (int locks = 2; locks <= 8; locks++) {
            for (LockLevelTypes x : new LockLevelTypes[] {allHeld(locks), Programs.sealed(locks, 1)}) {
                for (int lock : Programs.NUMBERS) {
                    if (lock < 0 || lock >= locks) {
                        due.same("holder(" + lock + ") of " + locks, x.holder(lock), -1);
                    }
                }
            }
            due.same("holder of the last of " + locks, allHeld(locks).holder(locks - 1), 0);
        }
    }

    private static void positiveWhileHeld(Due due) {
        LockLevelTypes x = Programs.sealed(2, 2, "A1 A1 A1 R1 R1 N R1", "A1");
        int[] counts = {1, 2, 3, 2, 1, 1, 0};
        for (int i = 0; i < counts.length; i++) {
            x.step(0);
            due.same("holdCount after step " + i, x.holdCount(1), counts[i]);
            due.same("holder after step " + i, x.holder(1), counts[i] > 0 ? 0 : -1);
        }
        LockLevelTypes deep = Programs.sealed(2, 1, "C1 C1 C1 C1 C1 C1 C1 C1", "C2 C2 C2 C2 C2 C2 C2 C2",
            "C3 C3 C3 C3 C3 C3 C3 C3", "A0 A0 A0 A0 A0 A0 A0 A0");
        for (int i = 0; i < 8; i++) {
            deep.run(0, 1024);
        }
        due.same("holdCount of 4096 takes", deep.holdCount(0), 4096);
        due.same("holder of 4096 takes", deep.holder(0), 0);
    }

    private static void noCountOfAFreeLock(Due due) {
        LockLevelTypes x = Programs.sealed(2, 2, "R1 R1 A1 A1 R1 R1 R1 R1", "R1 R1");
        int[] counts = {0, 0, 1, 2, 1, 0, 0, 0};
        due.same("holdCount at the start", x.holdCount(1), 0);
        for (int i = 0; i < counts.length; i++) {
            x.step(0);
            due.same("holdCount after step " + i, x.holdCount(1), counts[i]);
        }
        x.step(1);
        due.same("holdCount after another's release", x.holdCount(1), 0);
    }

    private static void noCountOutOfRange(Due due) {
        for (int locks = 2; locks <= 8; locks++) {
            LockLevelTypes x = allHeld(locks);
            for (int lock : Programs.NUMBERS) {
                if (lock < 0 || lock >= locks) {
                    due.same("holdCount(" + lock + ") of " + locks, x.holdCount(lock), 0);
                }
            }
            due.same("holdCount of the last of " + locks, x.holdCount(locks - 1), 1);
        }
    }
}
