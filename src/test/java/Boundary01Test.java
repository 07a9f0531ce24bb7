/** The boundary cases of promise 1, construction and the start, a test for each sentence. */
public final class Boundary01Test {
    public static void main(String[] args) {
        Sentences.run(Boundary01Test::list);
    }

    static void list(Sentences s) {
        s.says("`new LockLevelTypes(locks, threads)` never fails", Boundary01Test::neverFails);
        s.says("any value below 2 (including negative values and `Integer.MIN_VALUE`) gives 2", Boundary01Test::tooFewLocks);
        s.says("any value above 8 (including `Integer.MAX_VALUE`) gives 8", Boundary01Test::tooManyLocks);
        s.says("values in 2..8 are kept", Boundary01Test::keptLocks);
        s.says("threadCount is `threads` clamped into 1..4", Boundary01Test::keptThreads);
        s.says("`threads` clamped into 1..4 in the same way", Boundary01Test::tooFewThreads);
        s.says("`threads` clamped into 1..4 in the same way", Boundary01Test::tooManyThreads);
        s.says("All 8 procedures start empty", Boundary01Test::emptyProcedures);
        s.says("the program holds 0 instructions", Boundary01Test::emptyProgram);
        s.says("The entry procedure of thread t is procedure t", Boundary01Test::entries);
        s.says("The object is not sealed", Boundary01Test::notSealed);
        s.says("Until it is sealed: `holder` answers -1", due -> silent(due, LockLevelTypes::holder, -1));
        s.says("`holdCount` 0", due -> silent(due, LockLevelTypes::holdCount, 0));
        s.says("`frameProc` -1", due -> silent(due, LockLevelTypes::frameProc, -1));
        s.says("`framePc` -1", due -> silent(due, LockLevelTypes::framePc, -1));
        s.says("`waitsFor` -1", due -> silent(due, LockLevelTypes::waitsFor, -1));
        s.says("`deadlocked` false", due -> silent(due, (x, n) -> x.deadlocked() ? 1 : 0, 0));
        s.says("`order` false", Boundary01Test::orderIsSilent);
        s.says("`level` -1", due -> silent(due, LockLevelTypes::level, -1));
        s.says("`cycleLock` -1", due -> silent(due, (x, n) -> x.cycleLock(), -1));
        s.says("`soloLength` -1", due -> silent(due, LockLevelTypes::soloLength, -1));
        s.says("`restart` false", due -> silent(due, (x, n) -> x.restart() ? 1 : 0, 0));
        s.says("`run` -1", Boundary01Test::runIsSilent);
        s.says("`step` `STEP_BAD`", due -> silent(due, LockLevelTypes::step, LockLevelTypes.STEP_BAD));
        s.says("all for every argument and without change", Boundary01Test::allTogether);
    }

    private static void neverFails(Due due) {
        for (int locks : Programs.NUMBERS) {
            for (int threads : Programs.NUMBERS) {
                LockLevelTypes x = new LockLevelTypes(locks, threads);
                due.same("check of " + locks + ", " + threads, x.check(), LockLevelTypes.ACCEPT);
            }
        }
    }

    /** The last lock there is, and the first that there is not, in every call that takes a lock. */
    private static void locksAre(Due due, int locks, int want) {
        String of = " of " + locks;
        LockLevelTypes x = new LockLevelTypes(locks, 1);
        due.same("ACQ of the last lock" + of, x.emit(0, 1, want - 1), 0);
        due.same("REL of the last lock" + of, x.emit(0, 2, want - 1), 1);
        due.same("ACQ past the last lock" + of, x.emit(0, 1, want), LockLevelTypes.ERR_ARG);
        due.same("REL past the last lock" + of, x.emit(0, 2, want), LockLevelTypes.ERR_ARG);
        x.check();
        due.same("level of the last lock" + of, x.level(want - 1), 0);
        due.same("level past the last lock" + of, x.level(want), -1);
        x.step(0);
        due.same("holder of the last lock" + of, x.holder(want - 1), 0);
        due.same("holdCount of the last lock" + of, x.holdCount(want - 1), 1);
    }

    private static void tooFewLocks(Due due) {
        for (int locks : new int[] {Integer.MIN_VALUE, Integer.MIN_VALUE + 1, -256, -8, -2, -1, 0, 1}) {
            locksAre(due, locks, 2);
        }
    }

    private static void tooManyLocks(Due due) {
        for (int locks : new int[] {9, 10, 16, 64, 256, 258, 65536, Integer.MAX_VALUE - 1, Integer.MAX_VALUE}) {
            locksAre(due, locks, 8);
        }
    }

    private static void keptLocks(Due due) {
        for (int locks = 2; locks <= 8; locks++) {
            locksAre(due, locks, locks);
        }
    }

    private static void threadsAre(Due due, int threads, int want) {
        String of = " of " + threads;
        LockLevelTypes x = Programs.make(2, threads, "N", "N", "N", "N", "N", "N N");
        due.yes("setEntry of the last thread" + of, x.setEntry(want - 1, 5));
        due.no("setEntry past the last thread" + of, x.setEntry(want, 5));
        x.check();
        due.same("soloLength of the last thread" + of, x.soloLength(want - 1), 2);
        due.same("soloLength past the last thread" + of, x.soloLength(want), -1);
        due.same("step of the last thread" + of, x.step(want - 1), LockLevelTypes.STEP_OK);
        due.same("step past the last thread" + of, x.step(want), LockLevelTypes.STEP_BAD);
        due.same("frameProc of the last thread" + of, x.frameProc(want - 1), 5);
        due.same("frameProc past the last thread" + of, x.frameProc(want), -1);
    }

    private static void tooFewThreads(Due due) {
        for (int threads : new int[] {Integer.MIN_VALUE, Integer.MIN_VALUE + 1, -256, -4, -2, -1, 0}) {
            threadsAre(due, threads, 1);
        }
    }

    private static void tooManyThreads(Due due) {
        for (int threads : new int[] {5, 6, 8, 64, 256, 257, 65536, Integer.MAX_VALUE - 1, Integer.MAX_VALUE}) {
            threadsAre(due, threads, 4);
        }
    }

    private static void keptThreads(Due due) {
        for (int threads = 1; threads <= 4; threads++) {
            threadsAre(due, threads, threads);
        }
    }

    private static void emptyProcedures(Due due) {
        for (int proc = 0; proc <= 7; proc++) {
            LockLevelTypes x = new LockLevelTypes(2, 1);
            x.setEntry(0, proc);
            x.check();
            due.same("soloLength from " + proc, x.soloLength(0), 0);
            due.same("step from " + proc, x.step(0), LockLevelTypes.STEP_DONE);
            due.same("first position in " + proc, new LockLevelTypes(2, 1).emit(proc, 0, 0), 0);
        }
    }

    private static void emptyProgram(Due due) {
        LockLevelTypes x = new LockLevelTypes(2, 1);
        int taken = 0;
        for (int i = 0; i < 64; i++) {
            taken += x.emit(i / 8, 0, 0) >= 0 ? 1 : 0;
        }
        due.same("instructions that find room", taken, 32);
    }

    private static void entries(Due due) {
        LockLevelTypes x = Programs.sealed(2, 4, "N", "N", "N", "N", "N", "N", "N", "N");
        for (int thread = 0; thread < 4; thread++) {
            due.same("frameProc(" + thread + ")", x.frameProc(thread), thread);
        }
    }

    private static void notSealed(Due due) {
        LockLevelTypes x = new LockLevelTypes(2, 1);
        due.no("restart", x.restart());
        due.same("emit", x.emit(0, 0, 0), 0);
        due.yes("setEntry", x.setEntry(0, 0));
        due.same("step", x.step(0), LockLevelTypes.STEP_BAD);
    }

    private static void silent(Due due, States.Question question, int want) {
        States.answersAlways(due, States.notSealed(), question, want);
    }

    private static void orderIsSilent(Due due) {
        silent(due, (x, n) -> {
            int answers = 0;
            for (int m : Programs.NUMBERS) {
                answers += x.order(n, m) || x.order(m, n) ? 1 : 0;
            }
            return answers;
        }, 0);
    }

    private static void runIsSilent(Due due) {
        silent(due, (x, steps) -> {
            int others = 0;
            for (int script : Programs.NUMBERS) {
                others += x.run(script, steps) == -1 ? 0 : 1;
            }
            return others;
        }, 0);
    }

    private static void allTogether(Due due) {
        String nothing = "-1x0 ".repeat(10) + "-1:-1>-1 ".repeat(6) + "false | levels" + " -1".repeat(10)
            + " cycle -1 solo" + " -1".repeat(6);
        States.changesNothing(due, States.notSealed(), x -> {
            x.restart();
            for (int n : Programs.NUMBERS) {
                x.step(n);
                x.run(n, n);
            }
            due.same("all that can be seen", Programs.all(x), nothing);
        });
    }
}
