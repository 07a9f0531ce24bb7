/** Promise 13: frameProc and framePc. */
public final class Promise13Test {
    private static final Due due = new Due();

    public static void main(String[] args) {
        straight();
        callsAndReturns();
        settledAtTheStart();
        afterTheLastCall();
        outOfRange();
        changeNothing();
        due.end();
    }

    private static void walk(String name, LockLevelTypes x, int thread, String... frames) {
        for (String frame : frames) {
            due.same(name, x.frameProc(thread) + ":" + x.framePc(thread), frame);
            x.step(thread);
        }
        due.same(name + " at the end", x.frameProc(thread) + ":" + x.framePc(thread), "-1:-1");
    }

    private static void straight() {
        LockLevelTypes x = Programs.sealed(2, 2, "N A0 R0 N", "N A1 A0 R0 R0 R1 N N");
        walk("thread 1", x, 1, "1:0", "1:1", "1:2", "1:3", "1:4", "1:5", "1:6", "1:7");
        walk("thread 0", x, 0, "0:0", "0:1", "0:2", "0:3");
        x.restart();
        walk("thread 0 after restart", x, 0, "0:0", "0:1", "0:2", "0:3");
    }

    private static void callsAndReturns() {
        LockLevelTypes x = Programs.sealed(2, 2, "C1 N", "N C3 N C7", "", "C5 N C5", "", "N N", "", "N");
        walk("thread 0", x, 0, "0:0", "1:0", "1:1", "3:0", "5:0", "5:1", "3:1", "3:2", "5:0", "5:1", "1:2", "1:3", "7:0", "0:1");
        walk("thread 1", x, 1, "1:0", "1:1", "3:0", "5:0", "5:1", "3:1", "3:2", "5:0", "5:1", "1:2", "1:3", "7:0");
        LockLevelTypes entry = Programs.make(2, 1, "N", "", "", "", "", "", "C7 N", "N");
        entry.setEntry(0, 6);
        entry.check();
        walk("entry 6", entry, 0, "6:0", "7:0", "6:1");
    }

    private static void settledAtTheStart() {
        LockLevelTypes x = Programs.sealed(2, 4, "", "C5 C6 N", "N", "");
        due.same("frameProc of an empty procedure", x.frameProc(0), -1);
        due.same("framePc of an empty procedure", x.framePc(0), -1);
        due.same("frameProc of another empty one", x.frameProc(3), -1);
        walk("calls of empty procedures", x, 1, "1:0", "1:1", "1:2");
    }

    private static void afterTheLastCall() {
        LockLevelTypes x = Programs.sealed(2, 1, "N C1", "N C2", "N C3", "N C4", "N C5", "N C6", "N C7", "N N");
        walk("last calls", x, 0, "0:0", "0:1", "1:0", "1:1", "2:0", "2:1", "3:0", "3:1", "4:0", "4:1", "5:0", "5:1", "6:0", "6:1",
            "7:0", "7:1");
        LockLevelTypes back = Programs.sealed(2, 1, "C1 N", "C2", "C3", "C4", "C5", "C6", "C7", "N");
        walk("return over many", back, 0, "0:0", "1:0", "2:0", "3:0", "4:0", "5:0", "6:0", "7:0", "0:1");
    }

    private static void outOfRange() {
        for (int threads = 1; threads <= 4; threads++) {
            LockLevelTypes x = Programs.make(2, threads, "N N", "N N", "N N", "N N");
            for (int thread : Programs.NUMBERS) {
                due.same("frameProc(" + thread + ") before check", x.frameProc(thread), -1);
                due.same("framePc(" + thread + ") before check", x.framePc(thread), -1);
            }
            x.check();
            for (int thread : Programs.NUMBERS) {
                boolean inside = thread >= 0 && thread < threads;
                due.same("frameProc(" + thread + ") of " + threads, x.frameProc(thread), inside ? thread : -1);
                due.same("framePc(" + thread + ") of " + threads, x.framePc(thread), inside ? 0 : -1);
            }
        }
    }

    private static void changeNothing() {
        LockLevelTypes x = Programs.sealed(3, 2, "A0 C2 A1", "A1 A2 N", "N");
        Programs.steps(x, "0011");
        String before = Programs.all(x);
        for (int thread : Programs.NUMBERS) {
            x.frameProc(thread);
            x.framePc(thread);
        }
        due.same("all after frameProc and framePc", Programs.all(x), before);
        // A blocked thread stays where it is.
        LockLevelTypes blocked = Programs.sealed(2, 2, "A0 N", "C2 N", "A0 N");
        due.same("steps into the wait", Programs.steps(blocked, "0111"), "0011");
        due.same("frameProc of a blocked thread", blocked.frameProc(1), 2);
        due.same("framePc of a blocked thread", blocked.framePc(1), 0);
    }
}
