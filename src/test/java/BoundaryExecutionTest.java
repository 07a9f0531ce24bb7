/** The boundary cases of "Execution of one thread", a test for each sentence. */
public final class BoundaryExecutionTest {
    public static void main(String[] args) {
        Sentences.run(BoundaryExecutionTest::list);
    }

    static void list(Sentences s) {
        s.says("The same rules serve the solo runs of `check` and the machine", BoundaryExecutionTest::soloAsTheMachine);
        s.says("A thread has a stack of frames (procedure, pc)", BoundaryExecutionTest::deepestStacks);
        s.says("To START a thread: push frame (entry, 0)", BoundaryExecutionTest::startsAtZero);
        s.says("then SETTLE", BoundaryExecutionTest::settlesAtTheStart);
        s.says("SETTLE: while the stack is not empty", BoundaryExecutionTest::settlesToTheEmptyStack);
        s.says("the top frame's pc equals the number of instructions of its procedure, pop it",
            BoundaryExecutionTest::settlesNoFurther);
        s.says("A thread whose stack is empty is DONE", BoundaryExecutionTest::emptyStackIsDone);
        s.says("Otherwise its CURRENT instruction is the one at the top frame's pc", BoundaryExecutionTest::currentInstruction);
        s.says("NOP: pc of the top frame += 1", BoundaryExecutionTest::nopMovesOn);
        s.says("ACQ l: if l is held by this thread, its hold count += 1", BoundaryExecutionTest::acquiresAgain);
        s.says("else (l free) this thread becomes its holder with hold count 1. pc += 1", BoundaryExecutionTest::acquiresFree);
        s.says("REL l: if l is held by this thread, its hold count -= 1", BoundaryExecutionTest::releasesOne);
        s.says("and at 0 the lock becomes free", BoundaryExecutionTest::freeAtZero);
        s.says("if l is not held by this thread, nothing happens to locks", BoundaryExecutionTest::releasesWhatIsNotHeld);
        s.says("pc += 1 in both cases", BoundaryExecutionTest::releaseMovesOn);
        s.says("CALL p: pc of the top frame += 1, then push frame (p, 0)", BoundaryExecutionTest::calls);
        s.says("After every executed instruction, SETTLE", BoundaryExecutionTest::settlesAfterEach);
        s.says("Executing one instruction is one STEP", BoundaryExecutionTest::oneInstructionOneStep);
        s.says("An ACQ l whose lock is held by ANOTHER thread cannot execute", BoundaryExecutionTest::cannotExecute);
    }

    private static void frame(Due due, String what, LockLevelTypes x, int thread, String want) {
        due.same(what, Programs.frame(x, thread), want);
    }

    private static void lock(Due due, String what, LockLevelTypes x, int lock, String want) {
        due.same(what, Programs.held(x, lock), want);
    }

    private static int stepsToTheEnd(LockLevelTypes x, int thread) {
        int steps = 0;
        while (steps < 10000 && x.step(thread) == LockLevelTypes.STEP_OK) {
            steps++;
        }
        return steps;
    }

    private static void soloAsTheMachine(Due due) {
        String[][] programs = {
            {""}, {"N"}, {"C1", ""}, {"C1 C1", "C2", ""}, {"R0 A0 A0 R1 R0 R0 R0 A1"}, {"A0 C1 A1", "A0 C2 R0", "R0 R0 R0"},
            {"C1 C1 C1 C1 C1 C1 C1 C1", "C2 C2 C2 C2 C2 C2 C2 C2", "A0 A0 A0 A0 A0 A0"},
            {"C1", "C2", "C3", "C4", "C5", "C6", "C7", ""}
        };
        for (String[] procs : programs) {
            LockLevelTypes x = Programs.sealed(2, 1, procs);
            due.same("steps alone of " + String.join(" | ", procs), stepsToTheEnd(x, 0), x.soloLength(0));
        }
    }

    private static void deepestStacks(Due due) {
        LockLevelTypes x = Programs.make(2, 4, "C1 N", "C2 N", "C3 N", "C4 N", "C5 N", "C6 N", "C7 N", "N");
        for (int thread = 0; thread < 4; thread++) {
            x.setEntry(thread, 0);
        }
        x.check();
        Programs.steps(x, "0123".repeat(7));
        for (int thread = 0; thread < 4; thread++) {
            frame(due, "eight frames deep", x, thread, "7:0");
        }
        Programs.steps(x, "0123");
        for (int proc = 6; proc >= 0; proc--) {
            for (int thread = 0; thread < 4; thread++) {
                frame(due, "on the way back", x, thread, proc + ":1");
                x.step(thread);
            }
        }
        for (int thread = 0; thread < 4; thread++) {
            frame(due, "at the end", x, thread, "-1:-1");
        }
    }

    private static void startsAtZero(Due due) {
        for (int entry = 0; entry <= 7; entry++) {
            LockLevelTypes x = Programs.make(2, 1, "N N", "N N", "N N", "N N", "N N", "N N", "N N", "N N");
            x.setEntry(0, entry);
            x.check();
            frame(due, "at the start", x, 0, entry + ":0");
            Programs.steps(x, "0");
            x.restart();
            frame(due, "after restart", x, 0, entry + ":0");
        }
    }

    private static void settlesAtTheStart(Due due) {
        LockLevelTypes x = Programs.sealed(2, 2, "", "C2 N");
        frame(due, "an empty entry", x, 0, "-1:-1");
        due.same("step of an empty entry", x.step(0), LockLevelTypes.STEP_DONE);
        frame(due, "a call of an empty procedure has still to execute", x, 1, "1:0");
        due.same("soloLength of an empty entry", x.soloLength(0), 0);
    }

    private static void settlesToTheEmptyStack(Due due) {
        LockLevelTypes full = Programs.sealed(2, 1, "C1", "C2", "C3", "C4", "C5", "C6", "C7", "N");
        due.same("steps down", Programs.steps(full, "0000000"), "0000000");
        frame(due, "before the last step", full, 0, "7:0");
        due.same("last step", full.step(0), LockLevelTypes.STEP_OK);
        frame(due, "eight frames popped at once", full, 0, "-1:-1");
        due.same("step past the end", full.step(0), LockLevelTypes.STEP_DONE);
        LockLevelTypes hollow = Programs.sealed(2, 1, "C1", "C2", "C3", "C4", "C5", "C6", "C7", "");
        due.same("steps down to an empty procedure", Programs.steps(hollow, "0000000"), "0000000");
        frame(due, "the empty one and seven more popped at once", hollow, 0, "-1:-1");
    }

    private static void settlesNoFurther(Due due) {
        for (int stop = 0; stop < 7; stop++) {
            LockLevelTypes x = new LockLevelTypes(2, 1);
            for (int proc = 0; proc < 7; proc++) {
                Programs.load(x, proc, "C" + (proc + 1) + (proc == stop ? " N" : ""));
            }
            Programs.load(x, 7, "N N");
            x.check();
            Programs.steps(x, "00000000");
            frame(due, "one instruction is left", x, 0, "7:1");
            x.step(0);
            frame(due, "the first frame with an instruction left", x, 0, stop + ":1");
            x.step(0);
            frame(due, "the rest", x, 0, "-1:-1");
        }
    }

    private static void emptyStackIsDone(Due due) {
        for (String text : new String[] {"", "N", "A0", "R0", "C1", "N N N N N N N N"}) {
            LockLevelTypes x = Programs.sealed(2, 1, text);
            int length = text.isEmpty() ? 0 : text.split(" ").length;
            for (int i = 0; i < length; i++) {
                due.same("step " + i + " of " + text, x.step(0), LockLevelTypes.STEP_OK);
            }
            due.same("step past " + text, x.step(0), LockLevelTypes.STEP_DONE);
            frame(due, "frame past " + text, x, 0, "-1:-1");
        }
    }

    private static void currentInstruction(Due due) {
        LockLevelTypes x = Programs.sealed(8, 2, "A0 A1 A2 C2 A4 A5 A6 A7", "N", "A3");
        int[] held = {1, 2, 3, 3, 4, 5, 6, 7, 8};
        for (int i = 0; i < held.length; i++) {
            x.step(0);
            for (int lock = 0; lock < 8; lock++) {
                due.same("holder(" + lock + ") after step " + i, x.holder(lock), lock < held[i] ? 0 : -1);
            }
        }
        due.same("step past position 7", x.step(0), LockLevelTypes.STEP_DONE);
    }

    private static void nopMovesOn(Due due) {
        LockLevelTypes x = Programs.sealed(2, 1, "N N N N N N N N");
        for (int pc = 0; pc < 8; pc++) {
            frame(due, "at a NOP", x, 0, "0:" + pc);
            x.step(0);
        }
        frame(due, "past the last NOP", x, 0, "-1:-1");
    }

    private static void acquiresAgain(Due due) {
        LockLevelTypes x = Programs.sealed(2, 2, "A1 A1 A1 A1 A1 A1 A1 A1", "N");
        for (int count = 1; count <= 8; count++) {
            due.same("step", x.step(0), LockLevelTypes.STEP_OK);
            lock(due, "take " + count, x, 1, "0x" + count);
            lock(due, "the other lock", x, 0, "-1x0");
            frame(due, "pc after take " + count, x, 0, count == 8 ? "-1:-1" : "0:" + count);
        }
    }

    private static void acquiresFree(Due due) {
        LockLevelTypes x = Programs.sealed(2, 2, "A0 A0 A0 R0 R0 R0 N", "A0 N");
        lock(due, "never held", x, 0, "-1x0");
        x.step(0);
        lock(due, "first take", x, 0, "0x1");
        frame(due, "pc after it", x, 0, "0:1");
        Programs.steps(x, "00000");
        lock(due, "given up after three takes", x, 0, "-1x0");
        x.step(1);
        lock(due, "taken by the other: the count starts anew", x, 0, "1x1");
        frame(due, "pc after it", x, 1, "1:1");
    }

    private static void releasesOne(Due due) {
        LockLevelTypes x = Programs.sealed(2, 1, "A0 A0 A0 A1 R0 R0 N");
        Programs.steps(x, "0000");
        lock(due, "three takes", x, 0, "0x3");
        x.step(0);
        lock(due, "one release", x, 0, "0x2");
        x.step(0);
        lock(due, "two releases", x, 0, "0x1");
        lock(due, "the other lock", x, 1, "0x1");
    }

    private static void freeAtZero(Due due) {
        LockLevelTypes x = Programs.sealed(2, 2, "A0 A0 R0 R0 N", "A0");
        Programs.steps(x, "000");
        lock(due, "one hold left", x, 0, "0x1");
        due.same("step of the other", x.step(1), LockLevelTypes.STEP_BLOCKED);
        x.step(0);
        lock(due, "none left", x, 0, "-1x0");
        due.same("step of the other", x.step(1), LockLevelTypes.STEP_OK);
    }

    private static void releasesWhatIsNotHeld(Due due) {
        LockLevelTypes x = Programs.sealed(3, 2, "A0 A1 A1 N", "R0 R1 R2 A2 R0 R1 R2 R2");
        Programs.steps(x, "000");
        int[] second = {0, 0, 0, 1, 1, 1, 0, 0};
        for (int i = 0; i < second.length; i++) {
            due.same("step " + i, x.step(1), LockLevelTypes.STEP_OK);
            lock(due, "another's lock after step " + i, x, 0, "0x1");
            lock(due, "another's lock held twice after step " + i, x, 1, "0x2");
            lock(due, "the lock it takes itself after step " + i, x, 2, second[i] == 0 ? "-1x0" : "1x1");
        }
    }

    private static void releaseMovesOn(Due due) {
        LockLevelTypes x = Programs.sealed(2, 2, "A0 A0 R0 R0 R0 N", "N R1 R0");
        Programs.steps(x, "00");
        for (int pc = 2; pc <= 4; pc++) {
            frame(due, "before a release", x, 0, "0:" + pc);
            x.step(0);
            frame(due, "after a release", x, 0, "0:" + (pc + 1));
        }
        x.restart();
        Programs.steps(x, "01");
        x.step(1);
        frame(due, "after a release of a free lock", x, 1, "1:2");
        x.step(1);
        frame(due, "after a release of another's lock", x, 1, "-1:-1");
    }

    private static void calls(Due due) {
        LockLevelTypes x = Programs.sealed(2, 1, "C7 N C7 N N N N C7", "", "", "", "", "", "", "N N");
        String[] frames = {
            "0:0", "7:0", "7:1", "0:1", "0:2", "7:0", "7:1", "0:3", "0:4", "0:5", "0:6", "0:7", "7:0", "7:1", "-1:-1"
        };
        for (int i = 0; i < frames.length; i++) {
            frame(due, "after " + i + " steps", x, 0, frames[i]);
            due.same("step " + i, x.step(0), i < frames.length - 1 ? LockLevelTypes.STEP_OK : LockLevelTypes.STEP_DONE);
        }
        LockLevelTypes hollow = Programs.sealed(2, 1, "C1 C1 N");
        hollow.step(0);
        frame(due, "after a call of an empty procedure", hollow, 0, "0:1");
        hollow.step(0);
        frame(due, "after two calls of an empty procedure", hollow, 0, "0:2");
    }

    private static void settlesAfterEach(Due due) {
        for (String last : new String[] {"N", "A0", "R0", "A0 A0", "A0 R0", "C7"}) {
            LockLevelTypes inCall = Programs.sealed(2, 1, "C1 N", last);
            LockLevelTypes atEnd = Programs.sealed(2, 1, last);
            int length = last.split(" ").length;
            inCall.step(0);
            for (int i = 0; i < length; i++) {
                frame(due, "before " + last, inCall, 0, "1:" + i);
                frame(due, "before " + last, atEnd, 0, "0:" + i);
                inCall.step(0);
                atEnd.step(0);
            }
            frame(due, "back from " + last, inCall, 0, "0:1");
            frame(due, "done after " + last, atEnd, 0, "-1:-1");
        }
    }

    private static void oneInstructionOneStep(Due due) {
        LockLevelTypes x = Programs.sealed(2, 1, "C1 C3 N", "A0 C2 R0", "N", "");
        due.same("soloLength: three and four more, no step for a return", x.soloLength(0), 7);
        due.same("run of six", x.run(0, 6), 6);
        frame(due, "one left", x, 0, "0:2");
        due.same("run to the end", x.run(0, 100), 1);
        LockLevelTypes nested = Programs.sealed(2, 1, "C1 N", "C2", "C3", "N");
        due.same("soloLength: no step for the return from three", nested.soloLength(0), 5);
        due.same("steps to the return from three", Programs.steps(nested, "0000"), "0000");
        frame(due, "back from three", nested, 0, "0:1");
    }

    private static void cannotExecute(Due due) {
        LockLevelTypes x = Programs.sealed(2, 2, "A0 A0 R0 R0", "C2", "A0 A1");
        Programs.steps(x, "001");
        for (int i = 0; i < 3; i++) {
            due.same("step at another's lock", x.step(1), LockLevelTypes.STEP_BLOCKED);
            frame(due, "frame at another's lock", x, 1, "2:0");
            lock(due, "another's lock", x, 0, "0x2");
        }
        Programs.steps(x, "0");
        due.same("step while one hold is left", x.step(1), LockLevelTypes.STEP_BLOCKED);
        Programs.steps(x, "0");
        due.same("step once the lock is free", x.step(1), LockLevelTypes.STEP_OK);
        lock(due, "own lock", x, 0, "1x1");
    }
}
