/** The boundary cases of promise 4, check, a test for each sentence. */
public final class Boundary04Test {
    public static void main(String[] args) {
        Sentences.run(Boundary04Test::list);
    }

    static void list(Sentences s) {
        s.says("The first call of `check()` seals the program: from then on `emit` answers `ERR_SEALED`",
            Boundary04Test::emitIsRefused);
        s.says("and `setEntry` false", Boundary04Test::setEntryIsRefused);
        s.says("It then performs the solo runs of every thread t < threadCount", Boundary04Test::runsEveryThread);
        s.says("builds the order graph, decides the verdict and, under ACCEPT, the levels", Boundary04Test::findsAll);
        s.says("It puts the machine in its initial state", Boundary04Test::initialState);
        s.says("answers the verdict (`ACCEPT`, `REJECT_CYCLE` or `REJECT_LONG`)", Boundary04Test::eachVerdict);
        s.says("The solo runs leave no trace on the machine", Boundary04Test::noTrace);
        s.says("Every later call answers the same verdict", Boundary04Test::sameVerdict);
        s.says("and changes nothing: neither the graph, nor the verdict, nor the machine state",
            Boundary04Test::laterCallsChangeNothing);
    }

    private static LockLevelTypes[] ofEachVerdict() {
        return new LockLevelTypes[] {
            Programs.make(3, 3, "A0 A0 C4", "A1 N", "", "", "A1 A2"), Programs.make(3, 3, "A0 A1 N", "A1 A0", "A2 A2"),
            Programs.makeLong(3, 3, "A0 A1 C5", "A1 A0", "A2 A2")
        };
    }

    private static void emitIsRefused(Due due) {
        for (LockLevelTypes x : ofEachVerdict()) {
            due.same("emit before check", x.emit(3, 0, 0), 0);
            x.check();
            due.same("emit after check", x.emit(3, 0, 0), LockLevelTypes.ERR_SEALED);
            x.check();
            x.restart();
            x.run(0xE4E4E4E4, 1024);
            due.same("emit later", x.emit(3, 0, 0), LockLevelTypes.ERR_SEALED);
        }
        LockLevelTypes empty = new LockLevelTypes(2, 1);
        empty.check();
        due.same("emit after check of the empty program", empty.emit(0, 0, 0), LockLevelTypes.ERR_SEALED);
    }

    private static void setEntryIsRefused(Due due) {
        for (LockLevelTypes x : ofEachVerdict()) {
            due.yes("setEntry before check", x.setEntry(0, 0));
            x.check();
            due.no("setEntry after check", x.setEntry(0, 0));
            due.no("setEntry to another after check", x.setEntry(2, 1));
            x.restart();
            due.no("setEntry later", x.setEntry(0, 0));
            due.same("frameProc(2)", x.frameProc(2), x.soloLength(2) == 0 ? -1 : 2);
        }
    }

    private static void runsEveryThread(Due due) {
        for (int threads = 1; threads <= 4; threads++) {
            LockLevelTypes x = Programs.sealed(4, threads, "A0 R0", "A1 A0 R0", "A2 A1 R1", "A3 A2 R2 N");
            int[] lengths = {2, 3, 3, 4};
            for (int thread = 0; thread < 4; thread++) {
                boolean runs = thread < threads;
                due.same("soloLength(" + thread + ") of " + threads, x.soloLength(thread), runs ? lengths[thread] : -1);
                due.same("edge of " + thread + " of " + threads, x.order(thread, thread - 1) ? 1 : 0, runs && thread > 0 ? 1 : 0);
            }
        }
    }

    private static void findsAll(Due due) {
        String[] want = {
            "0->1 0->2 1->2 levels -1 0 1 2 -1 -1 -1 -1 -1 -1 cycle -1 solo -1 5 2 0 -1 -1",
            "0->1 1->0 levels -1 -1 -1 -1 -1 -1 -1 -1 -1 -1 cycle 0 solo -1 3 2 2 -1 -1",
            "levels -1 -1 -1 -1 -1 -1 -1 -1 -1 -1 cycle -1 solo -1 513 2 2 -1 -1"
        };
        LockLevelTypes[] objects = ofEachVerdict();
        for (int verdict = 0; verdict < 3; verdict++) {
            objects[verdict].check();
            due.same("findings under " + verdict, Programs.findings(objects[verdict]), want[verdict]);
        }
        LockLevelTypes empty = Programs.sealed(2, 1);
        due.same("findings of the empty program", Programs.findings(empty),
            "levels -1 0 0 -1 -1 -1 -1 -1 -1 -1 cycle -1 solo -1 0 -1 -1 -1 -1");
    }

    private static void initialState(Due due) {
        String free = "-1x0 ".repeat(10);
        String[] frames = {"0:0>-1 1:0>-1 -1:-1>-1 ", "0:0>-1 1:0>-1 2:0>-1 ", "0:0>-1 1:0>-1 2:0>-1 "};
        LockLevelTypes[] objects = ofEachVerdict();
        for (int verdict = 0; verdict < 3; verdict++) {
            objects[verdict].check();
            due.same("machine under " + verdict, Programs.machine(objects[verdict]),
                free + "-1:-1>-1 " + frames[verdict] + "-1:-1>-1 -1:-1>-1 false");
        }
    }

    private static void eachVerdict(Due due) {
        LockLevelTypes[] objects = ofEachVerdict();
        due.same("check of an order", objects[0].check(), LockLevelTypes.ACCEPT);
        due.same("check of a cycle", objects[1].check(), LockLevelTypes.REJECT_CYCLE);
        due.same("check of a long run", objects[2].check(), LockLevelTypes.REJECT_LONG);
        due.same("check of the empty program", new LockLevelTypes(2, 1).check(), LockLevelTypes.ACCEPT);
        due.same("check of the longest run that fits", Programs.makeLong(2, 1, "C5").check(), LockLevelTypes.ACCEPT);
        due.same("check of one instruction more", Programs.makeLong(2, 1, "C5 N").check(), LockLevelTypes.REJECT_LONG);
    }

    /** Runs that end, or are cut off, with locks held and frames on the stack. */
    private static void noTrace(Due due) {
        LockLevelTypes kept = Programs.make(2, 4, "A0 A0 A1", "A0", "A1 A1", "R0 R1 A0");
        LockLevelTypes cut = Programs.makeLong(2, 4, "A0 A1 C5", "A0 C5 N", "A1 C5", "");
        for (LockLevelTypes x : new LockLevelTypes[] {kept, cut}) {
            x.check();
            for (int lock = 0; lock < 2; lock++) {
                due.same("holder(" + lock + ")", x.holder(lock), -1);
                due.same("holdCount(" + lock + ")", x.holdCount(lock), 0);
            }
            for (int thread = 0; thread < 3; thread++) {
                due.same("frame of " + thread, Programs.frame(x, thread), thread + ":0");
            }
            due.same("first steps", Programs.steps(x, "12"), "00");
            due.same("a count that starts at 1", x.holdCount(0), 1);
            x.restart();
            due.same("steps of thread 0", Programs.steps(x, "00"), "00");
        }
    }

    private static void sameVerdict(Due due) {
        LockLevelTypes[] objects = ofEachVerdict();
        for (int verdict = 0; verdict < 3; verdict++) {
            LockLevelTypes x = objects[verdict];
            for (int i = 0; i < 5; i++) {
                due.same("check " + i, x.check(), verdict);
            }
            x.emit(0, 0, 0);
            x.setEntry(0, 3);
            due.same("check after refused calls", x.check(), verdict);
            x.run(0x44444444, 1024);
            due.same("check after a run", x.check(), verdict);
            x.restart();
            due.same("check after restart", x.check(), verdict);
        }
    }

    private static void laterCallsChangeNothing(Due due) {
        States.changesNothing(due, States.sealed(), x -> {
            x.check();
            x.check();
        });
    }
}
