/** The boundary cases of promise 10, cycleLock, a test for each sentence. */
public final class Boundary10Test {
    public static void main(String[] args) {
        Sentences.run(Boundary10Test::list);
    }

    static void list(Sentences s) {
        s.says("under verdict `REJECT_CYCLE`, the smallest lock index", Boundary10Test::smallest);
        s.says("that lies on a cycle of the order graph", Boundary10Test::onACycle);
        s.says("Otherwise, and before sealing, it answers -1", Boundary10Test::otherVerdicts);
        s.says("and before sealing, it answers -1", Boundary10Test::beforeSealing);
        s.says("It changes nothing", due -> States.askingChangesNothing(due, (x, n) -> x.cycleLock()));
    }

    private static void lowest(Due due, int want, String... procs) {
        LockLevelTypes x = Programs.make(8, 4, procs);
        due.same("check of " + String.join(" | ", procs), x.check(), LockLevelTypes.REJECT_CYCLE);
        due.same("cycleLock of " + String.join(" | ", procs), x.cycleLock(), want);
    }

    private static void smallest(Due due) {
        for (int a = 0; a < 8; a++) {
            for (int b = 0; b < 8; b++) {
                if (a != b) {
                    lowest(due, Math.min(a, b), "A" + a + " A" + b + " R" + a + " A" + a);
                }
            }
        }
        // Of two cycles, the one with the smaller lock, wherever it stands.
        lowest(due, 2, "A6 A3 R6 A6", "A5 A2 R5 A5");
        lowest(due, 2, "A5 A2 R5 A5", "A6 A3 R6 A6");
        // All eight locks on one cycle.
        lowest(due, 0, "A7 A3 R7 A5 R3 C4", "", "", "", "A0 R5 A6 R0 A1 R6 C5", "A4 R1 A2 R4 A7");
        lowest(due, 1, "A1 A2 R1 C4", "", "", "", "A3 R2 A4 R3 A5 R4 C5", "A6 R5 A7 R6 A1");
    }

    private static void onACycle(Due due) {
        // Lock 0 leads to the cycle, or is led to by it, or both, by way of two cycles.
        lowest(due, 6, "A0 A6", "A6 A7 R6 A6");
        lowest(due, 6, "A6 A0", "A6 A7 R6 A6");
        lowest(due, 2, "A4 A5 R4 A4", "A4 A0", "A0 A2", "A2 A3 R2 A2");
        lowest(due, 5, "A0 A1 A2 A3", "A5 A7 R5 A5", "A3 A7", "A3 A4 A5");
    }

    private static void otherVerdicts(Due due) {
        LockLevelTypes empty = Programs.sealed(2, 1);
        due.same("cycleLock of the empty program", empty.cycleLock(), -1);
        LockLevelTypes accepted = Programs.sealed(8, 1, "A0 A1 A2 A3 A4 A5 A6 A7");
        due.same("cycleLock under ACCEPT", accepted.cycleLock(), -1);
        LockLevelTypes tooLong = Programs.makeLong(2, 2, "A0 A1 R0 A0 C5", "A1 A0");
        due.same("check", tooLong.check(), LockLevelTypes.REJECT_LONG);
        due.same("cycleLock under REJECT_LONG", tooLong.cycleLock(), -1);
        tooLong.run(0x44444444, 1024);
        due.same("cycleLock after a run", tooLong.cycleLock(), -1);
        LockLevelTypes fits = Programs.makeLong(2, 2, "C5", "A1 A0 R1 A1");
        fits.check();
        due.same("cycleLock beside the longest run that fits", fits.cycleLock(), 0);
    }

    private static void beforeSealing(Due due) {
        States.answersAlways(due, States.notSealed(), (x, n) -> x.cycleLock(), -1);
        LockLevelTypes x = Programs.make(2, 2, "A0 A1", "A1 A0");
        due.same("cycleLock before check", x.cycleLock(), -1);
        x.check();
        due.same("cycleLock after check", x.cycleLock(), 0);
    }
}
