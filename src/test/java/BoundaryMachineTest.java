/** The boundary cases of "The machine", a test for each sentence. */
public final class BoundaryMachineTest {
    private static final String NOTHING = "-1x0 ".repeat(10) + "-1:-1>-1 ".repeat(6) + "false";

    public static void main(String[] args) {
        Sentences.run(BoundaryMachineTest::list);
    }

    static void list(Sentences s) {
        s.says("The machine exists only once the object is sealed", BoundaryMachineTest::onlyOnceSealed);
        s.says("Its initial state: all locks free with hold count 0", BoundaryMachineTest::locksFree);
        s.says("and every thread t < threadCount started as described above", BoundaryMachineTest::threadsStarted);
        s.says("Thread t WAITS FOR thread u when t is not done", BoundaryMachineTest::doneWaitsForNone);
        s.says("its current instruction is ACQ l", BoundaryMachineTest::waitsAtAcquireOnly);
        s.says("and l is held by u, with u != t", BoundaryMachineTest::waitsForAnother);
        s.says("The machine is DEADLOCKED when the waits-for relation has a cycle (threads t0 -> t1 -> ... -> t0)",
            BoundaryMachineTest::cyclesOfTwoToFour);
    }

    private static void onlyOnceSealed(Due due) {
        LockLevelTypes x = Programs.make(2, 2, "A0 A1 R1 R0", "A1 A0 R0 R1");
        due.same("machine before check", Programs.machine(x), NOTHING);
        due.same("steps before check", Programs.steps(x, "0101"), "3333");
        due.same("run before check", x.run(0x44444444, 8), -1);
        due.no("restart before check", x.restart());
        due.same("machine after calls before check", Programs.machine(x), NOTHING);
        x.check();
        due.same("steps once sealed", Programs.steps(x, "0101"), "0011");
        due.yes("deadlocked once sealed", x.deadlocked());
    }

    private static void locksFree(Due due) {
        for (int locks = 2; locks <= 8; locks++) {
            LockLevelTypes x = new LockLevelTypes(locks, 1);
            for (int lock = 0; lock < locks; lock++) {
                x.emit(0, LockLevelTypes.OP_ACQ, lock);
            }
            x.check();
            allFree(due, "after check of " + locks, x, locks);
            x.run(0, 8);
            x.restart();
            allFree(due, "after restart of " + locks, x, locks);
        }
    }

    private static void allFree(Due due, String what, LockLevelTypes x, int locks) {
        for (int lock = 0; lock < locks; lock++) {
            due.same("holder(" + lock + ") " + what, x.holder(lock), -1);
            due.same("holdCount(" + lock + ") " + what, x.holdCount(lock), 0);
        }
    }

    private static void threadsStarted(Due due) {
        for (int threads = 1; threads <= 4; threads++) {
            LockLevelTypes x = Programs.make(2, threads, "N", "C4", "", "A0 A0", "N", "", "", "R0");
            x.setEntry(0, 7);
            x.check();
            String[] want = {"7:0", "1:0", "-1:-1", "3:0"};
            for (int thread = 0; thread < 4; thread++) {
                String frame = Programs.frame(x, thread);
                due.same("frame of " + thread + " of " + threads, frame, thread < threads ? want[thread] : "-1:-1");
            }
        }
    }

    private static void doneWaitsForNone(Due due) {
        LockLevelTypes x = Programs.sealed(2, 3, "A0 N", "", "A1");
        x.step(0);
        x.step(2);
        due.same("waitsFor of a thread that never had an instruction", x.waitsFor(1), -1);
        due.same("waitsFor of a thread past its only ACQ", x.waitsFor(2), -1);
        LockLevelTypes passed = Programs.sealed(2, 2, "N A0 N", "A0 R0");
        due.same("steps", Programs.steps(passed, "1100"), "0000");
        due.same("waitsFor of a done thread beside a held lock", passed.waitsFor(1), -1);
        due.no("deadlocked", passed.deadlocked());
    }

    private static void waitsAtAcquireOnly(Due due) {
        LockLevelTypes x = new LockLevelTypes(2, 4);
        Programs.load(x, 0, "A0 A1 N");
        x.emit(1, LockLevelTypes.OP_NOP, 0);
        x.emit(2, LockLevelTypes.OP_REL, 0);
        x.emit(3, LockLevelTypes.OP_CALL, 4);
        x.emit(4, LockLevelTypes.OP_ACQ, 0);
        x.check();
        Programs.steps(x, "00");
        due.same("waitsFor at a NOP", x.waitsFor(1), -1);
        due.same("waitsFor at a REL of another's lock", x.waitsFor(2), -1);
        due.same("waitsFor at a CALL", x.waitsFor(3), -1);
        x.step(3);
        due.same("waitsFor at the ACQ that was called", x.waitsFor(3), 0);
    }

    private static void waitsForAnother(Due due) {
        for (int u = 0; u < 4; u++) {
            for (int lock = 0; lock < 8; lock += 7) {
                LockLevelTypes x = new LockLevelTypes(8, 4);
                for (int thread = 0; thread < 4; thread++) {
                    Programs.load(x, thread, "A" + lock + " A" + lock + " R" + lock + " R" + lock + " N");
                }
                x.check();
                waits(due, "for a free lock", x, -1, -1);
                x.step(u);
                waits(due, "for the holder, which does not wait for itself", x, u, u);
                x.step(u);
                waits(due, "for the holder of two holds", x, u, u);
                x.step(u);
                waits(due, "for the holder of one hold left", x, u, u);
                x.step(u);
                waits(due, "for a lock that is free again", x, u, -1);
            }
        }
    }

    private static void waits(Due due, String what, LockLevelTypes x, int holder, int want) {
        for (int thread = 0; thread < 4; thread++) {
            due.same("waitsFor(" + thread + ") " + what, x.waitsFor(thread), thread == holder ? -1 : want);
        }
    }

    private static void cyclesOfTwoToFour(Due due) {
        for (int size = 2; size <= 4; size++) {
            for (int first = 0; first + size <= 4; first++) {
                LockLevelTypes x = new LockLevelTypes(4, 4);
                for (int i = 0; i < size; i++) {
                    Programs.load(x, first + i, "A" + i + " A" + (i + 1) % size);
                }
                x.check();
                for (int i = 0; i < size; i++) {
                    due.no("deadlocked before the last of " + size + " from " + first, x.deadlocked());
                    x.step(first + i);
                }
                due.yes("deadlocked of " + size + " from " + first, x.deadlocked());
            }
        }
        LockLevelTypes chain = Programs.sealed(4, 4, "A0 A1", "A1 A2", "A2 A3", "A3 N");
        Programs.steps(chain, "0123");
        due.no("deadlocked of a chain of four", chain.deadlocked());
        LockLevelTypes own = Programs.sealed(2, 1, "A0 A0");
        own.step(0);
        due.no("deadlocked of one thread at its own lock", own.deadlocked());
    }
}
