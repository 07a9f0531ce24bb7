/** Promise 3: setEntry. */
public final class Promise03Test {
    private static final Due due = new Due();

    public static void main(String[] args) {
        everyArgument();
        everyProcedure();
        lastValueStays();
        sharedAndEmpty();
        refusedChangesNothing();
        sealed();
        due.end();
    }

    private static void everyArgument() {
        for (int threads = 1; threads <= 4; threads++) {
            for (int thread : Programs.NUMBERS) {
                for (int proc : Programs.NUMBERS) {
                    LockLevelTypes x = new LockLevelTypes(2, threads);
                    boolean want = thread >= 0 && thread < threads && proc >= 0 && proc < 8;
                    due.same("setEntry(" + thread + ", " + proc + ") with " + threads + " threads",
                        x.setEntry(thread, proc) ? 1 : 0, want ? 1 : 0);
                }
            }
        }
    }

    private static LockLevelTypes staircase(int threads) {
        return Programs.make(2, threads, "N", "N N", "N N N", "N N N N", "N N N N N", "N N N N N N", "N N N N N N N");
    }

    private static void everyProcedure() {
        for (int thread = 0; thread < 4; thread++) {
            for (int proc = 0; proc < 8; proc++) {
                LockLevelTypes x = staircase(4);
                due.yes("setEntry(" + thread + ", " + proc + ")", x.setEntry(thread, proc));
                x.check();
                for (int t = 0; t < 4; t++) {
                    int entry = t == thread ? proc : t;
                    int length = entry == 7 ? 0 : entry + 1;
                    due.same("soloLength(" + t + ") from " + entry, x.soloLength(t), length);
                    due.same("frameProc(" + t + ") from " + entry, x.frameProc(t), entry == 7 ? -1 : entry);
                }
            }
        }
    }

    private static void lastValueStays() {
        LockLevelTypes x = staircase(2);
        x.setEntry(0, 6);
        x.setEntry(0, 2);
        x.setEntry(1, 5);
        x.setEntry(0, 4);
        x.check();
        due.same("last entry of 0", x.frameProc(0), 4);
        due.same("last entry of 1", x.frameProc(1), 5);
        LockLevelTypes back = staircase(2);
        back.setEntry(1, 6);
        back.setEntry(1, 1);
        back.check();
        due.same("entry set back", back.frameProc(1), 1);
    }

    private static void sharedAndEmpty() {
        LockLevelTypes x = Programs.make(2, 4, "N", "A0 R0");
        for (int thread = 0; thread < 3; thread++) {
            due.yes("shared entry", x.setEntry(thread, 1));
        }
        due.yes("empty entry", x.setEntry(3, 7));
        x.check();
        for (int thread = 0; thread < 3; thread++) {
            due.same("shared frameProc", x.frameProc(thread), 1);
            due.same("shared soloLength", x.soloLength(thread), 2);
        }
        due.same("empty soloLength", x.soloLength(3), 0);
        due.same("empty step", x.step(3), LockLevelTypes.STEP_DONE);
        due.same("shared steps", Programs.steps(x, "0120112"), "0110000");
        LockLevelTypes early = new LockLevelTypes(2, 1);
        due.yes("entry that is filled later", early.setEntry(0, 5));
        early.emit(5, 0, 0);
        early.check();
        due.same("frameProc of an entry filled later", early.frameProc(0), 5);
    }

    private static void refusedChangesNothing() {
        LockLevelTypes x = staircase(2);
        x.setEntry(0, 3);
        for (int n : new int[] {Integer.MIN_VALUE, -1, 8, 9, Integer.MAX_VALUE}) {
            due.no("setEntry(0, " + n + ")", x.setEntry(0, n));
            due.no("setEntry(" + n + ", 6)", x.setEntry(n, 6));
        }
        due.no("setEntry(2, 6)", x.setEntry(2, 6));
        due.same("emit after setEntry", x.emit(0, 0, 0), 1);
        x.check();
        due.same("frameProc(0) after refusals", x.frameProc(0), 3);
        due.same("frameProc(1) after refusals", x.frameProc(1), 1);
    }

    private static void sealed() {
        LockLevelTypes x = staircase(4);
        x.check();
        x.step(2);
        String before = Programs.all(x);
        for (int thread : Programs.NUMBERS) {
            for (int proc : Programs.NUMBERS) {
                due.no("setEntry(" + thread + ", " + proc + ") when sealed", x.setEntry(thread, proc));
            }
        }
        due.same("all after setEntry when sealed", Programs.all(x), before);
        x.restart();
        for (int thread = 0; thread < 4; thread++) {
            due.same("frameProc after restart", x.frameProc(thread), thread);
        }
    }
}
