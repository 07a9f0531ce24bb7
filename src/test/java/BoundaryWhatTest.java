/** The boundary cases of "What it is", a test for each sentence. */
public final class BoundaryWhatTest {
    public static void main(String[] args) {
        Sentences.run(BoundaryWhatTest::list);
    }

    static void list(Sentences s) {
        s.says("The program consists of 8 procedures, numbered 0..7", BoundaryWhatTest::eightProcedures);
        s.says("each holding at most 8 instructions (positions 0..7", BoundaryWhatTest::eightInstructions);
        s.says("in the order emitted", BoundaryWhatTest::inTheOrderEmitted);
        s.says("the program as a whole holds at most 32 instructions", BoundaryWhatTest::thirtyTwoInstructions);
        s.says("`OP_NOP` (0) does nothing", BoundaryWhatTest::nopDoesNothing);
        s.says("`OP_ACQ` (1) acquires lock `arg` (0 <= arg < lockCount)", BoundaryWhatTest::firstAndLastLockAcquired);
        s.says("`OP_REL` (2) releases lock `arg` (0 <= arg < lockCount)", BoundaryWhatTest::firstAndLastLockReleased);
        s.says("`arg` must be greater than the index of the calling procedure", BoundaryWhatTest::callsGoUp);
        s.says("and at most 7", BoundaryWhatTest::callsGoToSevenAtMost);
        s.says("so calls never recurse", BoundaryWhatTest::callsNeverRecurse);
        s.says("Threads are numbered 0..threadCount-1", BoundaryWhatTest::threadNumbers);
        s.says("Thread t starts in its entry procedure, which is t unless changed by `setEntry`", BoundaryWhatTest::entries);
        s.says("runs every thread alone", BoundaryWhatTest::everyThreadRunsAlone);
        s.says("under ACCEPT only, infers a level for every lock", BoundaryWhatTest::levelsUnderAcceptOnly);
        s.says("Independently of the verdict, a machine steps the threads one instruction at a time",
            BoundaryWhatTest::stepsUnderEveryVerdict);
    }

    private static void eightProcedures(Due due) {
        for (int proc = 0; proc <= 7; proc++) {
            LockLevelTypes x = new LockLevelTypes(2, 1);
            due.same("emit in " + proc, x.emit(proc, 0, 0), 0);
            due.yes("setEntry to " + proc, x.setEntry(0, proc));
            x.check();
            due.same("frameProc", x.frameProc(0), proc);
        }
        LockLevelTypes x = new LockLevelTypes(2, 1);
        due.same("emit in -1", x.emit(-1, 0, 0), LockLevelTypes.ERR_PROC);
        due.same("emit in 8", x.emit(8, 0, 0), LockLevelTypes.ERR_PROC);
    }

    private static void eightInstructions(Due due) {
        for (int proc = 0; proc <= 7; proc++) {
            LockLevelTypes x = new LockLevelTypes(2, 1);
            for (int position = 0; position <= 7; position++) {
                due.same("emit in " + proc, x.emit(proc, 0, 0), position);
            }
            due.same("ninth emit in " + proc, x.emit(proc, 0, 0), LockLevelTypes.ERR_FULL);
            x.setEntry(0, proc);
            x.check();
            due.same("soloLength of " + proc, x.soloLength(0), 8);
        }
    }

    private static void inTheOrderEmitted(Due due) {
        LockLevelTypes x = Programs.sealed(8, 1, "A7 A0 A6 A1 A5 A2 A4 A3");
        int[] locks = {7, 0, 6, 1, 5, 2, 4, 3};
        for (int position = 0; position <= 7; position++) {
            due.same("framePc", x.framePc(0), position);
            due.same("holder before position " + position, x.holder(locks[position]), -1);
            x.step(0);
            due.same("holder after position " + position, x.holder(locks[position]), 0);
        }
    }

    private static void thirtyTwoInstructions(Due due) {
        for (int first = 0; first <= 4; first++) {
            LockLevelTypes x = new LockLevelTypes(2, 4);
            for (int i = 0; i < 32; i++) {
                due.same("emit " + i, x.emit(first + i / 8, 0, 0), i % 8);
            }
            for (int proc = 0; proc <= 7; proc++) {
                due.same("33rd in " + proc, x.emit(proc, 0, 0), LockLevelTypes.ERR_FULL);
            }
            for (int thread = 0; thread < 4; thread++) {
                x.setEntry(thread, first + thread);
            }
            x.check();
            due.same("instructions in all", x.run(0xE4E4E4E4, 1024), 32);
        }
    }

    private static void nopDoesNothing(Due due) {
        LockLevelTypes x = new LockLevelTypes(2, 2);
        Programs.load(x, 0, "A0 A0");
        Programs.load(x, 1, "A1");
        x.emit(0, 0, 1);
        x.emit(0, 0, 0);
        x.emit(1, 0, 0);
        x.emit(1, 0, 1);
        x.check();
        Programs.steps(x, "001");
        for (int i = 0; i < 2; i++) {
            due.same("steps at a NOP", Programs.steps(x, "01"), "00");
            due.same("locks after a NOP", Programs.held(x, 0) + " " + Programs.held(x, 1), "0x2 1x1");
        }
        due.same("edges of NOPs", Programs.edges(x), "");
        due.same("both are done", x.frameProc(0) + x.frameProc(1), -2);
    }

    private static void firstAndLastLockAcquired(Due due) {
        for (int locks = 2; locks <= 8; locks++) {
            LockLevelTypes x = new LockLevelTypes(locks, 1);
            due.same("ACQ -1 of " + locks, x.emit(0, 1, -1), LockLevelTypes.ERR_ARG);
            due.same("ACQ 0 of " + locks, x.emit(0, 1, 0), 0);
            due.same("ACQ of the last of " + locks, x.emit(0, 1, locks - 1), 1);
            due.same("ACQ past the last of " + locks, x.emit(0, 1, locks), LockLevelTypes.ERR_ARG);
            x.check();
            x.step(0);
            due.same("holder of the first", x.holder(0), 0);
            due.same("holder of the last", x.holder(locks - 1), -1);
            x.step(0);
            due.same("holder of the last", x.holder(locks - 1), 0);
        }
    }

    private static void firstAndLastLockReleased(Due due) {
        for (int locks = 2; locks <= 8; locks++) {
            LockLevelTypes x = Programs.make(locks, 1, "A0 A" + (locks - 1));
            due.same("REL -1 of " + locks, x.emit(0, 2, -1), LockLevelTypes.ERR_ARG);
            due.same("REL 0 of " + locks, x.emit(0, 2, 0), 2);
            due.same("REL of the last of " + locks, x.emit(0, 2, locks - 1), 3);
            due.same("REL past the last of " + locks, x.emit(0, 2, locks), LockLevelTypes.ERR_ARG);
            x.check();
            Programs.steps(x, "000");
            due.same("holder of the first", x.holder(0), -1);
            due.same("holder of the last", x.holder(locks - 1), 0);
            x.step(0);
            due.same("holder of the last", x.holder(locks - 1), -1);
        }
    }

    private static void callsGoUp(Due due) {
        for (int proc = 0; proc <= 7; proc++) {
            LockLevelTypes x = new LockLevelTypes(8, 1);
            for (int arg = -1; arg <= proc; arg++) {
                due.same("CALL " + arg + " in " + proc, x.emit(proc, 3, arg), LockLevelTypes.ERR_ARG);
            }
            if (proc < 7) {
                due.same("CALL of the next in " + proc, x.emit(proc, 3, proc + 1), 0);
                x.emit(proc + 1, 0, 0);
                x.setEntry(0, proc);
                x.check();
                x.step(0);
                due.same("frameProc after the call", x.frameProc(0), proc + 1);
            }
        }
    }

    private static void callsGoToSevenAtMost(Due due) {
        for (int proc = 0; proc <= 7; proc++) {
            LockLevelTypes x = new LockLevelTypes(8, 1);
            due.same("CALL 8 in " + proc, x.emit(proc, 3, 8), LockLevelTypes.ERR_ARG);
            due.same("CALL 9 in " + proc, x.emit(proc, 3, 9), LockLevelTypes.ERR_ARG);
            if (proc < 7) {
                due.same("CALL 7 in " + proc, x.emit(proc, 3, 7), 0);
                x.emit(7, 0, 0);
                x.setEntry(0, proc);
                x.check();
                x.step(0);
                due.same("frameProc after the call", x.frameProc(0), 7);
            }
        }
    }

    /** No call leads back, so even four calls in each procedure come to an end. */
    private static void callsNeverRecurse(Due due) {
        LockLevelTypes x = new LockLevelTypes(2, 1);
        for (int proc = 0; proc <= 7; proc++) {
            for (int back = 0; back <= proc; back++) {
                due.same("CALL " + back + " in " + proc, x.emit(proc, 3, back), LockLevelTypes.ERR_ARG);
            }
        }
        int want = 0;
        int frames = 1;
        for (int proc = 0; proc <= 7; proc++) {
            Programs.load(x, proc, proc < 7 ? ("C" + (proc + 1) + " ").repeat(4) : "N N N N");
            frames *= 4;
            want += frames;
        }
        due.same("check", x.check(), LockLevelTypes.REJECT_LONG);
        int steps = 0;
        while (steps <= want && x.step(0) == LockLevelTypes.STEP_OK) {
            steps++;
        }
        due.same("steps to the end", steps, want);
    }

    private static void threadNumbers(Due due) {
        for (int threads = 1; threads <= 4; threads++) {
            LockLevelTypes x = Programs.sealed(2, threads, "N", "N", "N", "N", "N");
            due.same("step(-1) of " + threads, x.step(-1), LockLevelTypes.STEP_BAD);
            due.same("step(" + threads + ") of " + threads, x.step(threads), LockLevelTypes.STEP_BAD);
            for (int thread = 0; thread < threads; thread++) {
                due.same("step(" + thread + ") of " + threads, x.step(thread), LockLevelTypes.STEP_OK);
            }
        }
    }

    private static void entries(Due due) {
        for (int changed = -1; changed < 4; changed++) {
            LockLevelTypes x = Programs.make(2, 4, "N", "N", "N", "N", "", "", "", "N");
            due.same("setEntry(" + changed + ", 7)", x.setEntry(changed, 7) ? 1 : 0, changed < 0 ? 0 : 1);
            x.check();
            for (int thread = 0; thread < 4; thread++) {
                due.same("frameProc(" + thread + ")", x.frameProc(thread), thread == changed ? 7 : thread);
            }
        }
    }

    private static void everyThreadRunsAlone(Due due) {
        for (int threads = 1; threads <= 4; threads++) {
            LockLevelTypes x = Programs.sealed(2, threads, "A0", "A0 A0", "A0 A0 A0", "A0 A0 A0 A0");
            for (int thread = 0; thread < 4; thread++) {
                due.same("soloLength(" + thread + ") of " + threads, x.soloLength(thread), thread < threads ? thread + 1 : -1);
            }
        }
    }

    private static void levelsUnderAcceptOnly(Due due) {
        for (int locks = 2; locks <= 8; locks++) {
            LockLevelTypes accepted = Programs.sealed(locks, 2, "A0 A1", "");
            LockLevelTypes cyclic = Programs.sealed(locks, 2, "A0 A1", "A1 A0");
            LockLevelTypes tooLong = Programs.makeLong(locks, 2, "A0 A1 C5", "");
            tooLong.check();
            for (int lock = 0; lock < locks; lock++) {
                due.same("level(" + lock + ") of " + locks, accepted.level(lock), lock == 1 ? 1 : 0);
                due.same("level(" + lock + ") of " + locks + " under a cycle", cyclic.level(lock), -1);
                due.same("level(" + lock + ") of " + locks + " under a long run", tooLong.level(lock), -1);
            }
        }
    }

    private static void stepsUnderEveryVerdict(Due due) {
        LockLevelTypes[] objects = {
            Programs.make(2, 2, "A0 R0", "A0"), Programs.make(2, 2, "A0 R0", "A0 A1 R0 A0"),
            Programs.makeLong(2, 2, "A0 R0", "A0 N C5")
        };
        for (int verdict = 0; verdict < objects.length; verdict++) {
            LockLevelTypes x = objects[verdict];
            due.same("check", x.check(), verdict);
            due.same("steps under " + verdict, Programs.steps(x, "01010"), "01002");
            due.same("holder under " + verdict, x.holder(0), 1);
        }
    }
}
