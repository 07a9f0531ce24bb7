/** Promise 6: step, with the execution of one thread that it rests on. */
public final class Promise06Test {
    private static final Due due = new Due();

    public static void main(String[] args) {
        badThreads();
        done();
        blocked();
        holds();
        releases();
        calls();
        deepCalls();
        othersUntouched();
        everyVerdictSteps();
        due.end();
    }

    private static void badThreads() {
        for (int threads = 1; threads <= 4; threads++) {
            LockLevelTypes x = Programs.make(2, threads, "N N", "N N", "N N", "N N");
            for (int thread : Programs.NUMBERS) {
                due.same("step(" + thread + ") before check", x.step(thread), LockLevelTypes.STEP_BAD);
            }
            x.check();
            String start = Programs.all(x);
            for (int thread : Programs.NUMBERS) {
                if (thread < 0 || thread >= threads) {
                    due.same("step(" + thread + ") of " + threads, x.step(thread), LockLevelTypes.STEP_BAD);
                }
            }
            due.same("all after bad steps", Programs.all(x), start);
            for (int thread = 0; thread < threads; thread++) {
                due.same("step(" + thread + ") of " + threads, x.step(thread), LockLevelTypes.STEP_OK);
                due.same("framePc after it", x.framePc(thread), 1);
            }
        }
    }

    private static void done() {
        LockLevelTypes x = Programs.sealed(2, 3, "A0", "", "N");
        due.same("steps to the end", Programs.steps(x, "0001122"), "0222202");
        due.same("holder after the end", x.holder(0), 0);
        due.same("holdCount after the end", x.holdCount(0), 1);
        String before = Programs.all(x);
        due.same("steps past the end", Programs.steps(x, "012012"), "222222");
        due.same("all past the end", Programs.all(x), before);
        due.same("bad comes before done", x.step(3), LockLevelTypes.STEP_BAD);
    }

    private static void blocked() {
        LockLevelTypes x = Programs.sealed(2, 2, "A0 A0 R0 R0 N", "A0 R0");
        due.same("thread 1 first gets the lock", Programs.steps(x, "1"), "0");
        String before = Programs.all(x);
        due.same("thread 0 is blocked", Programs.steps(x, "000"), "111");
        due.same("all after blocked steps", Programs.all(x), before);
        due.same("thread 1 gives it up", Programs.steps(x, "1"), "0");
        due.same("thread 0 goes on", Programs.steps(x, "00"), "00");
        due.same("holdCount", x.holdCount(0), 2);
        x.restart();
        due.same("held twice, released twice", Programs.steps(x, "0010101"), "0010100");
        due.same("holder after both releases", x.holder(0), 1);
        // A lock that its holder took to its end blocks for good.
        LockLevelTypes kept = Programs.sealed(2, 2, "A0", "A0");
        due.same("kept lock", Programs.steps(kept, "0110"), "0112");
    }

    private static void holds() {
        LockLevelTypes x = Programs.sealed(2, 1, "A0 A0 A0 R0 R0 R0 R0 A0");
        int[] counts = {1, 2, 3, 2, 1, 0, 0, 1};
        for (int i = 0; i < counts.length; i++) {
            due.same("step " + i, x.step(0), LockLevelTypes.STEP_OK);
            due.same("holdCount after " + i, x.holdCount(0), counts[i]);
            due.same("holder after " + i, x.holder(0), counts[i] > 0 ? 0 : -1);
            due.same("other lock after " + i, x.holder(1), -1);
            due.same("framePc after " + i, x.framePc(0), i == 7 ? -1 : i + 1);
        }
    }

    private static void releases() {
        LockLevelTypes x = Programs.sealed(2, 2, "A0 A0 N", "R0 R1 A1 R0 N");
        due.same("take twice", Programs.steps(x, "00"), "00");
        due.same("release of another's lock", x.step(1), LockLevelTypes.STEP_OK);
        due.same("holder after it", x.holder(0), 0);
        due.same("holdCount after it", x.holdCount(0), 2);
        due.same("framePc after it", x.framePc(1), 1);
        due.same("release of a free lock", x.step(1), LockLevelTypes.STEP_OK);
        due.same("holder of the free lock", x.holder(1), -1);
        due.same("holdCount of the free lock", x.holdCount(1), 0);
        due.same("framePc after the free lock", x.framePc(1), 2);
        due.same("take after a free release", x.step(1), LockLevelTypes.STEP_OK);
        due.same("holdCount after the take", x.holdCount(1), 1);
        due.same("release of another's lock while holding", x.step(1), LockLevelTypes.STEP_OK);
        due.same("holdCount of the other's", x.holdCount(0), 2);
        due.same("holdCount of its own", x.holdCount(1), 1);
    }

    private static void frame(LockLevelTypes x, int thread, int proc, int pc) {
        due.same("frameProc(" + thread + ")", x.frameProc(thread), proc);
        due.same("framePc(" + thread + ")", x.framePc(thread), pc);
    }

    private static void calls() {
        LockLevelTypes x = Programs.sealed(2, 1, "C2 C3 N C2", "", "N N");
        int[][] frames = {{2, 0}, {2, 1}, {0, 1}, {0, 2}, {0, 3}, {2, 0}, {2, 1}, {-1, -1}};
        frame(x, 0, 0, 0);
        for (int i = 0; i < frames.length; i++) {
            due.same("step " + i, x.step(0), LockLevelTypes.STEP_OK);
            frame(x, 0, frames[i][0], frames[i][1]);
        }
        due.same("step past the last call", x.step(0), LockLevelTypes.STEP_DONE);
    }

    private static void deepCalls() {
        LockLevelTypes x = Programs.sealed(2, 4, "C1", "C2", "C3", "C4", "C5", "C6", "C7", "N");
        for (int thread = 3; thread >= 0; thread--) {
            for (int proc = thread; proc < 8; proc++) {
                frame(x, thread, proc, 0);
                due.same("deep step", x.step(thread), LockLevelTypes.STEP_OK);
            }
            frame(x, thread, -1, -1);
        }
        LockLevelTypes back = Programs.sealed(2, 4, "C1 N", "C2 N", "C3 N", "C4 N", "C5 N", "C6 N", "C7 N", "N");
        for (int thread = 0; thread < 4; thread++) {
            for (int proc = thread; proc < 8; proc++) {
                frame(back, thread, proc, 0);
                back.step(thread);
            }
            for (int proc = 6; proc >= thread; proc--) {
                frame(back, thread, proc, 1);
                back.step(thread);
            }
            frame(back, thread, -1, -1);
        }
        LockLevelTypes hollow = Programs.sealed(2, 1, "C1 N", "C2", "C3", "C4", "C5", "C6", "C7");
        due.same("calls that end in an empty one", hollow.run(0, 7), 7);
        frame(hollow, 0, 0, 1);
    }

    private static void othersUntouched() {
        LockLevelTypes x = Programs.sealed(4, 4, "A0 C4 R0", "A1 N R1", "C5 N", "N A2 R2", "A3 R3", "N N");
        for (int i = 0; i < 20; i++) {
            int stepped = (i * 7 + i / 3) % 4;
            int[] before = frames(x);
            x.step(stepped);
            int[] after = frames(x);
            for (int thread = 0; thread < 4; thread++) {
                if (thread != stepped) {
                    due.same("frame of " + thread + " when " + stepped + " steps", after[thread], before[thread]);
                }
            }
        }
    }

    private static int[] frames(LockLevelTypes x) {
        int[] frames = new int[4];
        for (int thread = 0; thread < 4; thread++) {
            frames[thread] = x.frameProc(thread) * 100 + x.framePc(thread);
        }
        return frames;
    }

    private static void everyVerdictSteps() {
        LockLevelTypes cyclic = Programs.make(2, 2, "A0 A1 R1 R0", "A1 A0 R0 R1");
        due.same("cyclic verdict", cyclic.check(), LockLevelTypes.REJECT_CYCLE);
        due.same("steps into the deadlock", Programs.steps(cyclic, "010101"), "001111");
        cyclic.restart();
        due.same("steps around the deadlock", Programs.steps(cyclic, "001000111110"), "001002000022");
        LockLevelTypes tooLong = Programs.make(2, 1, "A0 N C5 R0");
        Programs.loadLong(tooLong);
        due.same("long verdict", tooLong.check(), LockLevelTypes.REJECT_LONG);
        int steps = 0;
        while (steps < 2000 && tooLong.step(0) == LockLevelTypes.STEP_OK) {
            steps++;
        }
        due.same("steps past the solo limit", steps, 515);
        due.same("holder at the end", tooLong.holder(0), -1);
    }
}
