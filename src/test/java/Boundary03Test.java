/** The boundary cases of promise 3, setEntry, a test for each sentence. */
public final class Boundary03Test {
    public static void main(String[] args) {
        Sentences.run(Boundary03Test::list);
    }

    static void list(Sentences s) {
        s.says("`setEntry(thread, proc)` sets the entry procedure of `thread` to `proc`", Boundary03Test::sets);
        s.says("It is refused, answering false and changing nothing, when the object is sealed",
            Boundary03Test::refusedWhenSealed);
        s.says("when `thread` is not in 0..threadCount-1", Boundary03Test::badThread);
        s.says("or when `proc` is not in 0..7", Boundary03Test::badProcedure);
        s.says("Otherwise it answers true", Boundary03Test::answersTrue);
        s.says("Any procedure 0..7 is allowed", Boundary03Test::firstAndLastProcedure);
        s.says("including an empty one (such a thread is done as soon as it starts)", Boundary03Test::emptyProcedure);
        s.says("and one used by other threads", Boundary03Test::sharedProcedure);
        s.says("Several calls for the same thread keep the last value", Boundary03Test::lastValue);
        s.says("Nothing else changes", Boundary03Test::nothingElse);
    }

    /** Procedure p has p + 1 instructions, but for 6 and 7, which have 1 and none. */
    private static LockLevelTypes staircase(int threads) {
        return Programs.make(2, threads, "N", "N N", "N N N", "N N N N", "N N N N N", "N N N N N N", "N");
    }

    private static void startsIn(Due due, String what, LockLevelTypes x, int... entries) {
        x.check();
        for (int thread = 0; thread < entries.length; thread++) {
            due.same("frameProc(" + thread + ") " + what, x.frameProc(thread), entries[thread]);
        }
    }

    private static void sets(Due due) {
        for (int thread = 0; thread < 4; thread++) {
            for (int proc = 0; proc <= 6; proc++) {
                LockLevelTypes x = staircase(4);
                x.setEntry(thread, proc);
                int[] entries = {0, 1, 2, 3};
                entries[thread] = proc;
                startsIn(due, "after setEntry(" + thread + ", " + proc + ")", x, entries);
                due.same("soloLength(" + thread + ")", x.soloLength(thread), proc == 6 ? 1 : proc + 1);
            }
        }
    }

    private static void refusedWhenSealed(Due due) {
        for (int proc : new int[] {-1, 0, 1, 6, 7, 8}) {
            States.changesNothing(due, States.sealed(), x -> {
                for (int thread = -1; thread <= 4; thread++) {
                    due.no("setEntry(" + thread + ", " + proc + ") when sealed", x.setEntry(thread, proc));
                }
            });
        }
    }

    private static void badThread(Due due) {
        for (int count = 1; count <= 4; count++) {
            int threads = count;
            States.alike(due, "refused threads of " + threads, () -> {
                LockLevelTypes x = staircase(threads);
                for (int thread : Programs.NUMBERS) {
                    if (thread < 0 || thread >= threads) {
                        due.no("setEntry(" + thread + ", 4) of " + threads, x.setEntry(thread, 4));
                    }
                }
                return x;
            }, () -> staircase(threads));
        }
    }

    private static void badProcedure(Due due) {
        States.alike(due, "refused procedures", () -> {
            LockLevelTypes x = staircase(4);
            for (int proc : Programs.NUMBERS) {
                if (proc < 0 || proc > 7) {
                    due.no("setEntry(0, " + proc + ")", x.setEntry(0, proc));
                    due.no("setEntry(3, " + proc + ")", x.setEntry(3, proc));
                    due.no("setEntry(4, " + proc + ")", x.setEntry(4, proc));
                }
            }
            return x;
        }, () -> staircase(4));
    }

    private static void answersTrue(Due due) {
        for (int threads = 1; threads <= 4; threads++) {
            LockLevelTypes x = staircase(threads);
            for (int thread = 0; thread < threads; thread++) {
                for (int proc = 0; proc <= 7; proc++) {
                    due.yes("setEntry(" + thread + ", " + proc + ") of " + threads, x.setEntry(thread, proc));
                    due.yes("the same again", x.setEntry(thread, proc));
                }
            }
        }
    }

    private static void firstAndLastProcedure(Due due) {
        LockLevelTypes x = Programs.make(2, 4, "N", "", "", "", "", "", "", "N");
        due.yes("setEntry(0, 7)", x.setEntry(0, 7));
        due.yes("setEntry(1, 0)", x.setEntry(1, 0));
        due.yes("setEntry(2, 7)", x.setEntry(2, 7));
        due.yes("setEntry(3, 0)", x.setEntry(3, 0));
        startsIn(due, "at the first or the last procedure", x, 7, 0, 7, 0);
    }

    private static void emptyProcedure(Due due) {
        for (int thread = 0; thread < 4; thread++) {
            LockLevelTypes x = staircase(4);
            due.yes("setEntry(" + thread + ", 7)", x.setEntry(thread, 7));
            x.check();
            due.same("soloLength", x.soloLength(thread), 0);
            due.same("frameProc", x.frameProc(thread), -1);
            due.same("step", x.step(thread), LockLevelTypes.STEP_DONE);
            x.restart();
            due.same("step after restart", x.step(thread), LockLevelTypes.STEP_DONE);
        }
        LockLevelTypes filled = new LockLevelTypes(2, 1);
        due.yes("setEntry to a procedure that is filled later", filled.setEntry(0, 7));
        filled.emit(7, 0, 0);
        startsIn(due, "in a procedure that was filled later", filled, 7);
    }

    private static void sharedProcedure(Due due) {
        LockLevelTypes x = Programs.make(2, 4, "", "", "", "", "", "A1 N R1");
        for (int thread = 0; thread < 4; thread++) {
            due.yes("setEntry(" + thread + ", 5)", x.setEntry(thread, 5));
        }
        startsIn(due, "in one procedure", x, 5, 5, 5, 5);
        due.same("steps of all in one procedure", Programs.steps(x, "2013222"), "0111002");
        due.same("each has a pc of its own",
            x.framePc(0) + " " + x.framePc(1) + " " + x.framePc(2) + " " + x.framePc(3), "0 0 -1 0");
        due.same("soloLength of each", x.soloLength(0) + x.soloLength(1) + x.soloLength(2) + x.soloLength(3), 12);
    }

    private static void lastValue(Due due) {
        LockLevelTypes x = staircase(2);
        for (int proc : new int[] {7, 0, 6, 3, 4}) {
            x.setEntry(1, proc);
        }
        x.setEntry(1, 8);
        x.setEntry(1, -1);
        x.setEntry(0, 5);
        x.setEntry(0, 0);
        startsIn(due, "at the last value that was taken", x, 0, 4);
    }

    private static void nothingElse(Due due) {
        States.changesNothing(due, States.notSealed(), x -> {
            x.setEntry(0, 5);
            x.setEntry(0, 0);
        });
        LockLevelTypes x = staircase(4);
        x.setEntry(1, 6);
        due.same("emit in the old entry", x.emit(1, 0, 0), 2);
        due.same("emit in the new entry", x.emit(6, 0, 0), 1);
        startsIn(due, "beside thread 1", x, 0, 6, 2, 3);
    }
}
