/** The boundary cases of promise 6, step, a test for each sentence. */
public final class Boundary06Test {
    public static void main(String[] args) {
        Sentences.run(Boundary06Test::list);
    }

    static void list(Sentences s) {
        s.says("`step(thread)` is one scheduling decision for `thread`", Boundary06Test::stepsTheThreadNamed);
        s.says("The tests are made in this order", Boundary06Test::orderOfTheTests);
        s.says("Not sealed", Boundary06Test::notSealed);
        s.says("or `thread` not in 0..threadCount-1 -> `STEP_BAD`", Boundary06Test::badThread);
        s.says("The thread is done -> `STEP_DONE`", Boundary06Test::done);
        s.says("Its current instruction is ACQ l with l held by another thread -> `STEP_BLOCKED`", Boundary06Test::blocked);
        s.says("These three answers change nothing", Boundary06Test::badChangesNothing);
        s.says("These three answers change nothing", Boundary06Test::doneChangesNothing);
        s.says("These three answers change nothing", Boundary06Test::blockedChangesNothing);
        s.says("Otherwise the current instruction executes under the rules of \"Execution of one thread\" (one step, then SETTLE)",
            Boundary06Test::oneStepThenSettle);
        s.says("and the answer is `STEP_OK`", Boundary06Test::answersOk);
        s.says("Only the stepped thread's frames and, for ACQ and REL, the holder and hold count of the named lock change",
            Boundary06Test::onlyTheNamedLock);
        s.says("other threads are untouched", Boundary06Test::othersUntouched);
        s.says("The verdict does not limit stepping: the machine runs the same way under every verdict",
            Boundary06Test::everyVerdict);
    }

    private static void stepsTheThreadNamed(Due due) {
        for (int thread = 0; thread < 4; thread++) {
            LockLevelTypes x = Programs.sealed(2, 4, "N N", "N N", "N N", "N N");
            x.step(thread);
            for (int other = 0; other < 4; other++) {
                due.same("framePc(" + other + ") after step(" + thread + ")", x.framePc(other), other == thread ? 1 : 0);
            }
        }
    }

    private static void orderOfTheTests(Due due) {
        LockLevelTypes x = Programs.make(2, 2, "", "A0");
        due.same("not sealed, and a thread that would be done", x.step(0), LockLevelTypes.STEP_BAD);
        x.check();
        due.same("bad thread, where others are done", x.step(2), LockLevelTypes.STEP_BAD);
        due.same("done from the start", x.step(0), LockLevelTypes.STEP_DONE);
        due.same("the only step", x.step(1), LockLevelTypes.STEP_OK);
        due.same("done past its ACQ", x.step(1), LockLevelTypes.STEP_DONE);
        LockLevelTypes ended = Programs.sealed(2, 2, "A0 N", "A0 R0");
        due.same("done past an ACQ of a lock that another holds now", Programs.steps(ended, "1101"), "0002");
    }

    private static void notSealed(Due due) {
        States.answersAlways(due, States.notSealed(), LockLevelTypes::step, LockLevelTypes.STEP_BAD);
    }

    private static void badThread(Due due) {
        for (int threads = 1; threads <= 4; threads++) {
            LockLevelTypes x = Programs.sealed(2, threads, "N", "N", "N", "N", "N");
            for (int thread : Programs.NUMBERS) {
                boolean inside = thread >= 0 && thread <= threads - 1;
                due.same("step(" + thread + ") of " + threads, x.step(thread),
                    inside ? LockLevelTypes.STEP_OK : LockLevelTypes.STEP_BAD);
            }
        }
    }

    private static void done(Due due) {
        LockLevelTypes x = Programs.sealed(2, 4, "", "N", "A0 A0", "C4", "");
        due.same("steps of an empty entry", Programs.steps(x, "00"), "22");
        due.same("steps of one instruction", Programs.steps(x, "111"), "022");
        due.same("steps of a thread that keeps its lock", Programs.steps(x, "2222"), "0022");
        due.same("steps of a call of an empty procedure", Programs.steps(x, "333"), "022");
        x.restart();
        due.same("steps after restart", Programs.steps(x, "0123"), "2000");
    }

    private static void blocked(Due due) {
        LockLevelTypes x = Programs.sealed(2, 3, "A1 A1 R1 R1 N", "A1 R1", "N A1");
        due.same("the lock is free", x.step(0), LockLevelTypes.STEP_OK);
        due.same("another's lock", x.step(1), LockLevelTypes.STEP_BLOCKED);
        due.same("a NOP before the ACQ, then the ACQ", Programs.steps(x, "22"), "01");
        due.same("its own lock", x.step(0), LockLevelTypes.STEP_OK);
        due.same("one of two holds given up", Programs.steps(x, "012"), "011");
        due.same("both given up: the first to step gets it", Programs.steps(x, "0212"), "0012");
        LockLevelTypes kept = Programs.sealed(2, 2, "A0", "A0");
        due.same("a lock that a done thread keeps", Programs.steps(kept, "01101"), "01121");
        for (int lock = 0; lock < 8; lock++) {
            LockLevelTypes other = Programs.sealed(8, 2, "A" + lock + " N", "A" + (lock + 1) % 8 + " A" + lock);
            due.same("another lock, then the same lock " + lock, Programs.steps(other, "011"), "001");
        }
    }

    private static void badChangesNothing(Due due) {
        States.changesNothing(due, States.sealed(), x -> {
            for (int thread : Programs.NUMBERS) {
                if (thread < 0 || thread > 3) {
                    due.same("step(" + thread + ")", x.step(thread), LockLevelTypes.STEP_BAD);
                }
            }
        });
        States.alike(due, "one thread", () -> {
            LockLevelTypes x = Programs.sealed(2, 1, "N N", "A0", "A0", "A0");
            due.same("steps past the only thread", Programs.steps(x, "123"), "333");
            return x;
        }, () -> Programs.sealed(2, 1, "N N", "A0", "A0", "A0"));
    }

    private static void doneChangesNothing(Due due) {
        for (String text : new String[] {"", "A0", "A0 A0 R0", "C4", "C5 C4 C5"}) {
            States.alike(due, "done with " + text, () -> {
                LockLevelTypes x = doneWith(text);
                for (int i = 0; i < 20; i++) {
                    due.same("step past " + text, x.step(0), LockLevelTypes.STEP_DONE);
                }
                return x;
            }, () -> doneWith(text));
        }
    }

    private static LockLevelTypes doneWith(String text) {
        LockLevelTypes x = Programs.sealed(2, 2, text, "A0 N", "", "", "A1", "C7");
        x.run(0, x.soloLength(0));
        return x;
    }

    private static void blockedChangesNothing(Due due) {
        States.alike(due, "blocked", () -> {
            LockLevelTypes x = blockedInACall();
            for (int i = 0; i < 20; i++) {
                due.same("step at another's lock", x.step(1), LockLevelTypes.STEP_BLOCKED);
            }
            return x;
        }, Boundary06Test::blockedInACall);
    }

    private static LockLevelTypes blockedInACall() {
        LockLevelTypes x = Programs.sealed(2, 2, "A0 A0 R0 R0", "A1 C2 N", "A0 R0");
        Programs.steps(x, "0011");
        return x;
    }

    private static void oneStepThenSettle(Due due) {
        LockLevelTypes x = Programs.sealed(2, 1, "C1 N", "C2", "A0 A0 R0");
        String[] frames = {"1:0", "2:0", "2:1", "2:2", "0:1", "-1:-1"};
        int[] counts = {0, 0, 1, 2, 1, 1};
        for (int i = 0; i < frames.length; i++) {
            x.step(0);
            due.same("frame after step " + i, Programs.frame(x, 0), frames[i]);
            due.same("holdCount(0) after step " + i, x.holdCount(0), counts[i]);
        }
    }

    private static void answersOk(Due due) {
        for (String text : new String[] {"N", "A0", "A1", "R0", "R1", "C1", "C7"}) {
            LockLevelTypes x = Programs.sealed(2, 1, text, "N", "", "", "", "", "", "N");
            due.same("step of " + text, x.step(0), LockLevelTypes.STEP_OK);
        }
        LockLevelTypes others = Programs.sealed(2, 2, "A0 A0", "R0");
        due.same("a release of another's lock", Programs.steps(others, "0010"), "0002");
    }

    private static String locks(LockLevelTypes x, int but) {
        StringBuilder s = new StringBuilder();
        for (int lock = 0; lock < 8; lock++) {
            if (lock != but) {
                s.append(Programs.held(x, lock)).append(' ');
            }
        }
        return s.toString();
    }

    /** Thread 0 holds every lock but one, which thread 1 takes and gives up. */
    private static void onlyTheNamedLock(Due due) {
        for (int lock = 0; lock < 8; lock++) {
            LockLevelTypes x = new LockLevelTypes(8, 2);
            for (int other = 0; other < 8; other++) {
                if (other != lock) {
                    x.emit(0, LockLevelTypes.OP_ACQ, other);
                }
            }
            Programs.load(x, 1, "N A" + lock + " A" + lock + " R" + lock + " R" + lock + " R" + (lock + 1) % 8 + " C2");
            Programs.load(x, 2, "N");
            x.check();
            x.run(0, 7);
            String others = locks(x, lock);
            int[] counts = {0, 1, 2, 1, 0, 0, 0, 0};
            for (int i = 0; i < counts.length; i++) {
                due.same("step " + i, x.step(1), LockLevelTypes.STEP_OK);
                due.same("other locks than " + lock + " after step " + i, locks(x, lock), others);
                due.same("holdCount(" + lock + ") after step " + i, x.holdCount(lock), counts[i]);
                due.same("holder(" + lock + ") after step " + i, x.holder(lock), counts[i] > 0 ? 1 : -1);
            }
        }
    }

    private static String walk(LockLevelTypes x, int thread) {
        StringBuilder s = new StringBuilder();
        for (int i = 0; i < 12; i++) {
            s.append(Programs.frame(x, thread)).append(' ').append(x.step(thread)).append(' ');
        }
        return s.toString();
    }

    /** Each thread has a lock of its own, so that a step of one leaves all ways of the others open. */
    private static void othersUntouched(Due due) {
        String[] procs = {"N A0 C4 R0 N", "N A1 C5 R1 N", "N A2 C4 R2 N", "N A3 C5 R3 N", "N C6", "C6 N", "N"};
        for (int stepped = 0; stepped < 4; stepped++) {
            for (int other = 0; other < 4; other++) {
                for (int before = 0; before <= 8 && other != stepped; before++) {
                    LockLevelTypes x = Programs.sealed(4, 4, procs);
                    LockLevelTypes twin = Programs.sealed(4, 4, procs);
                    Programs.steps(x, ("" + other).repeat(before));
                    Programs.steps(twin, ("" + other).repeat(before));
                    due.same("steps of " + stepped, Programs.steps(x, ("" + stepped).repeat(9)), "000000002");
                    due.same("the way of " + other + " after " + before + " steps", walk(x, other), walk(twin, other));
                }
            }
        }
    }

    /** The same two threads beside a third, which alone decides the verdict. */
    private static void everyVerdict(Due due) {
        String[] thirds = {"A0", "A0 A1 R0 A0", "N N C5"};
        for (String schedule : new String[] {"01010101", "0000011111", "10101010", "00110011001"}) {
            String first = null;
            for (int verdict = 0; verdict < 3; verdict++) {
                LockLevelTypes x = Programs.make(2, 3, "A0 R0", "A0 R0", thirds[verdict]);
                if (verdict == 2) {
                    Programs.loadLong(x);
                }
                due.same("check", x.check(), verdict);
                String seen = Programs.steps(x, schedule) + " " + Programs.held(x, 0) + " " + x.framePc(0) + " " + x.framePc(1);
                first = first == null ? seen : first;
                due.same("steps under " + verdict, seen, first);
            }
        }
        LockLevelTypes tooLong = Programs.makeLong(2, 1, "A0 C5 C5 R0");
        due.same("check", tooLong.check(), LockLevelTypes.REJECT_LONG);
        due.same("steps past 513", tooLong.run(0, 1024) + tooLong.run(0, 1024), 1026);
        due.same("holder at the end", tooLong.holder(0), -1);
        LockLevelTypes cyclic = Programs.sealed(2, 2, "A0 A1 R1 R0", "A1 A0 R0 R1");
        due.same("all of a cyclic program, one thread after the other", Programs.steps(cyclic, "000001111"), "000020000");
    }
}
