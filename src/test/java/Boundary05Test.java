import java.util.function.Supplier;

/** The boundary cases of promise 5, restart, a test for each sentence. */
public final class Boundary05Test {
    public static void main(String[] args) {
        Sentences.run(Boundary05Test::list);
    }

    static void list(Sentences s) {
        s.says("`restart()` when not sealed answers false and changes nothing", Boundary05Test::notSealed);
        s.says("When sealed, the machine returns to its initial state", Boundary05Test::fromEveryState);
        s.says("all locks free with hold count 0", Boundary05Test::locksFree);
        s.says("every thread t < threadCount started afresh from its entry procedure", Boundary05Test::startedAfresh);
        s.says("and the answer is true", Boundary05Test::answersTrue);
        s.says("The program, the verdict, the order graph, the levels and the solo lengths are kept", Boundary05Test::kept);
    }

    private static void notSealed(Due due) {
        States.changesNothing(due, States.notSealed(), x -> {
            due.no("restart before check", x.restart());
            due.no("restart again", x.restart());
        });
    }

    private static void fromEveryState(Due due) {
        States.sealed().forEach((name, state) -> {
            Supplier<LockLevelTypes> once = () -> {
                LockLevelTypes x = state.get();
                x.restart();
                return x;
            };
            Supplier<LockLevelTypes> again = () -> {
                LockLevelTypes x = once.get();
                x.run(0xE4E4E4E4, 1024);
                x.restart();
                x.restart();
                return x;
            };
            due.no("deadlocked, " + name, once.get().deadlocked());
            States.alike(due, name, once, again);
        });
        LockLevelTypes x = Programs.sealed(2, 3, "A0 A1 R1", "A1 A0 R0", "N C4", "", "N");
        Programs.steps(x, "0122");
        due.yes("deadlocked before", x.deadlocked());
        x.restart();
        due.same("machine after restart", Programs.machine(x),
            "-1x0 ".repeat(10) + "-1:-1>-1 0:0>-1 1:0>-1 2:0>-1 -1:-1>-1 -1:-1>-1 false");
    }

    private static void locksFree(Due due) {
        LockLevelTypes x = Programs.sealed(8, 4, "A0 A0 A0", "A1 A2 A3", "A4 A4 A5", "A6 A7 A7");
        x.run(0xE4E4E4E4, 64);
        due.same("holdCount(0) before", x.holdCount(0), 3);
        x.restart();
        for (int lock = 0; lock < 8; lock++) {
            due.same("holder(" + lock + ")", x.holder(lock), -1);
            due.same("holdCount(" + lock + ")", x.holdCount(lock), 0);
        }
        x.step(0);
        due.same("a count that starts at 1", x.holdCount(0), 1);
    }

    private static void startedAfresh(Due due) {
        for (int threads = 1; threads <= 4; threads++) {
            LockLevelTypes x = Programs.make(2, threads, "N C7 N", "C6 N", "", "N N", "", "N", "C7 N", "N N");
            x.setEntry(threads - 1, 5);
            x.check();
            int[] want = {0, 1, -1, 3};
            want[threads - 1] = 5;
            for (String schedule : new String[] {"", "000111", "012301230123", "0123".repeat(16)}) {
                Programs.steps(x, schedule);
                x.restart();
                for (int thread = 0; thread < 4; thread++) {
                    int proc = thread < threads ? want[thread] : -1;
                    due.same("frame of " + thread + " of " + threads + " after " + schedule,
                        Programs.frame(x, thread), proc + ":" + (proc < 0 ? -1 : 0));
                }
            }
        }
    }

    private static void answersTrue(Due due) {
        States.sealed().forEach((name, state) -> {
            LockLevelTypes x = state.get();
            due.yes("restart, " + name, x.restart());
            due.yes("restart again, " + name, x.restart());
        });
    }

    private static void kept(Due due) {
        States.sealed().forEach((name, state) -> {
            LockLevelTypes x = state.get();
            String findings = Programs.findings(x);
            int verdict = x.check();
            x.restart();
            due.same("findings, " + name, Programs.findings(x), findings);
            due.same("verdict, " + name, x.check(), verdict);
            due.same("emit, " + name, x.emit(0, 0, 0), LockLevelTypes.ERR_SEALED);
            due.no("setEntry, " + name, x.setEntry(0, 0));
            int length = x.soloLength(0);
            due.same("instructions of thread 0, " + name, x.run(0, 513), length);
        });
    }
}
