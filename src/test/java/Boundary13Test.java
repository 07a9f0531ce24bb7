/** The boundary cases of promise 13, frameProc and framePc, a test for each sentence. */
public final class Boundary13Test {
    public static void main(String[] args) {
        Sentences.run(Boundary13Test::list);
    }

    static void list(Sentences s) {
        s.says("`frameProc(thread)` answers the procedure of the thread's top frame in the machine", Boundary13Test::topFrame);
        s.says("`framePc(thread)` answers the pc of that frame", Boundary13Test::everyPc);
        s.says("which after SETTLE is always a valid position of the procedure's instructions", Boundary13Test::alwaysValid);
        s.says("Both answer -1 when the thread is done", Boundary13Test::done);
        s.says("when `thread` is not in 0..threadCount-1, or before sealing", Boundary13Test::outOfRange);
        s.says("or before sealing", due -> States.answersAlways(due, States.notSealed(), LockLevelTypes::frameProc, -1));
        s.says("or before sealing", due -> States.answersAlways(due, States.notSealed(), LockLevelTypes::framePc, -1));
        s.says("Neither changes anything", due -> States.askingChangesNothing(due, LockLevelTypes::frameProc));
        s.says("Neither changes anything", due -> States.askingChangesNothing(due, LockLevelTypes::framePc));
    }

    private static void topFrame(Due due) {
        for (int thread = 0; thread < 4; thread++) {
            LockLevelTypes x = Programs.make(2, 4, "C1 N", "C2", "C3", "C4 N", "C5", "C6", "C7", "N N");
            x.setEntry(thread, 0);
            x.check();
            String[] frames = {"0:0", "1:0", "2:0", "3:0", "4:0", "5:0", "6:0", "7:0", "7:1", "3:1", "0:1", "-1:-1"};
            for (String want : frames) {
                due.same("top frame of " + thread, Programs.frame(x, thread), want);
                x.step(thread);
            }
        }
    }

    private static void everyPc(Due due) {
        for (int proc = 0; proc <= 7; proc++) {
            LockLevelTypes x = new LockLevelTypes(2, 1);
            Programs.load(x, proc, "N A0 R0 N A1 A1 R1 N");
            x.setEntry(0, proc);
            x.check();
            for (int pc = 0; pc <= 7; pc++) {
                due.same("frame", Programs.frame(x, 0), proc + ":" + pc);
                x.step(0);
            }
            due.same("frame at the end", Programs.frame(x, 0), "-1:-1");
        }
    }

    private static void alwaysValid(Due due) {
        String[] procs = {"C1 C4 C2", "C2", "C3 C7 N", "N C4", "", "C6", "C7 A0", ""};
        int[] lengths = {3, 1, 3, 2, 0, 1, 2, 0};
        for (int entry = 0; entry <= 7; entry++) {
            LockLevelTypes x = Programs.make(2, 1, procs);
            x.setEntry(0, entry);
            x.check();
            int steps = 0;
            while (steps < 100 && x.frameProc(0) >= 0) {
                due.yes("a valid pc in " + Programs.frame(x, 0), x.framePc(0) >= 0 && x.framePc(0) < lengths[x.frameProc(0)]);
                due.same("step", x.step(0), LockLevelTypes.STEP_OK);
                steps++;
            }
            due.same("steps from " + entry, steps, x.soloLength(0));
        }
    }

    private static void done(Due due) {
        LockLevelTypes x = Programs.sealed(2, 4, "", "N", "A0", "C5 C6", "", "", "");
        due.same("an empty entry", Programs.frame(x, 0), "-1:-1");
        String[] before = {"", "1:0", "2:0", "3:0"};
        for (int thread = 1; thread < 4; thread++) {
            due.same("before the steps of " + thread, Programs.frame(x, thread), before[thread]);
            Programs.steps(x, thread == 3 ? "33" : "" + thread);
            due.same("after the steps of " + thread, Programs.frame(x, thread), "-1:-1");
            x.step(thread);
            due.same("after a step too many of " + thread, Programs.frame(x, thread), "-1:-1");
        }
        LockLevelTypes blocked = Programs.sealed(2, 2, "A0", "A0");
        Programs.steps(blocked, "011");
        due.same("a blocked thread is not done", Programs.frame(blocked, 1), "1:0");
    }

    private static void outOfRange(Due due) {
        for (int threads = 1; threads <= 4; threads++) {
            LockLevelTypes x = Programs.sealed(2, threads, "N N", "N N", "N N", "N N", "N N");
            for (int thread : Programs.NUMBERS) {
                boolean inside = thread >= 0 && thread <= threads - 1;
                due.same("frame of " + thread + " of " + threads, Programs.frame(x, thread), inside ? thread + ":0" : "-1:-1");
            }
        }
    }
}
