import java.util.function.Consumer;

/** The boundary cases of promise 14, waitsFor and deadlocked, a test for each sentence. */
public final class Boundary14Test {
    public static void main(String[] args) {
        Sentences.run(Boundary14Test::list);
    }

    static void list(Sentences s) {
        s.says("`waitsFor(thread)` answers the thread u that `thread` waits for in the machine", Boundary14Test::everyPair);
        s.says("`thread` is not done", Boundary14Test::doneWaitsForNone);
        s.says("its current instruction is ACQ l", Boundary14Test::atAcquireOnly);
        s.says("and l is held by u with u != `thread`", Boundary14Test::heldByAnother);
        s.says("It answers -1 when the thread waits for none (including when the lock is held by the thread itself",
            Boundary14Test::ownLock);
        s.says("or is free)", Boundary14Test::freeLock);
        s.says("when `thread` is out of range", Boundary14Test::outOfRange);
        s.says("or before sealing", due -> States.answersAlways(due, States.notSealed(), LockLevelTypes::waitsFor, -1));
        s.says("`deadlocked()` answers true iff the waits-for relation of the machine has a cycle", Boundary14Test::cyclesOnly);
        s.says("`deadlocked()` answers true iff the waits-for relation of the machine has a cycle",
            Boundary14Test::waitsBesideACycle);
        s.says("`deadlocked()` answers true iff the waits-for relation of the machine has a cycle", Boundary14Test::noCycle);
        s.says("false before sealing", Boundary14Test::notDeadlockedBeforeSealing);
        s.says("Neither changes anything", due -> States.askingChangesNothing(due, LockLevelTypes::waitsFor));
        s.says("Neither changes anything", due -> States.askingChangesNothing(due, (x, n) -> x.deadlocked() ? 1 : 0));
        s.says("Once `check()` has answered `ACCEPT`, at every later point `deadlocked()` answers false",
            Boundary14Test::acceptedNeverDeadlocks);
        s.says("no thread t has a chain `waitsFor(t)`, `waitsFor(waitsFor(t))`, ... that returns to t",
            Boundary14Test::acceptedChainsEnd);
        s.says("whatever `step`, `run` and `restart` calls follow, with any arguments",
            Boundary14Test::acceptedUnderAnyArguments);
    }

    private static void waits(Due due, String what, LockLevelTypes x, boolean deadlocked, int... want) {
        for (int thread = 0; thread < want.length; thread++) {
            due.same("waitsFor(" + thread + ") " + what, x.waitsFor(thread), want[thread]);
        }
        due.same("deadlocked " + what, x.deadlocked() ? 1 : 0, deadlocked ? 1 : 0);
    }

    private static void everyPair(Due due) {
        for (int t = 0; t < 4; t++) {
            for (int u = 0; u < 4; u++) {
                if (t != u) {
                    LockLevelTypes x = new LockLevelTypes(8, 4);
                    Programs.load(x, t, "A7");
                    Programs.load(x, u, "A7 N");
                    x.check();
                    x.step(u);
                    int[] want = {-1, -1, -1, -1};
                    want[t] = u;
                    waits(due, "where " + t + " waits for " + u, x, false, want);
                }
            }
        }
    }

    private static void doneWaitsForNone(Due due) {
        LockLevelTypes x = Programs.sealed(2, 4, "A0 N", "", "A1 R1", "N");
        due.same("steps", Programs.steps(x, "02233"), "00002");
        waits(due, "where the others are done", x, false, -1, -1, -1, -1);
        LockLevelTypes last = Programs.sealed(2, 2, "A1 A0", "A0 A1");
        due.same("steps to the end of thread 0", Programs.steps(last, "00"), "00");
        waits(due, "where the holder is done", last, false, -1, 0);
    }

    private static void atAcquireOnly(Due due) {
        LockLevelTypes x = new LockLevelTypes(2, 4);
        Programs.load(x, 0, "A0 A1 N");
        x.emit(1, LockLevelTypes.OP_NOP, 1);
        x.emit(2, LockLevelTypes.OP_REL, 1);
        x.emit(3, LockLevelTypes.OP_CALL, 4);
        x.emit(4, LockLevelTypes.OP_ACQ, 1);
        x.check();
        Programs.steps(x, "00");
        waits(due, "at a NOP, a REL and a CALL", x, false, -1, -1, -1, -1);
        x.step(3);
        waits(due, "at the ACQ that was called", x, false, -1, -1, -1, 0);
    }

    private static void heldByAnother(Due due) {
        for (int lock = 0; lock < 8; lock++) {
            LockLevelTypes x = Programs.sealed(8, 3, "A" + lock + " N", "A" + (lock + 1) % 8 + " N", "A" + lock);
            x.step(1);
            waits(due, "while another lock is held", x, false, -1, -1, -1);
            x.step(0);
            waits(due, "while lock " + lock + " is held", x, false, -1, -1, 0);
        }
    }

    private static void ownLock(Due due) {
        LockLevelTypes alone = Programs.sealed(2, 1, "A0 A0 A0");
        LockLevelTypes four = Programs.sealed(4, 4, "A0 A0 N", "A1 A1 N", "A2 A2 N", "A3 A3 N");
        for (int i = 0; i < 3; i++) {
            waits(due, "at its own lock, alone", alone, false, -1);
            waits(due, "each at its own lock", four, false, -1, -1, -1, -1);
            alone.step(0);
            Programs.steps(four, "0123");
        }
    }

    private static void freeLock(Due due) {
        LockLevelTypes x = Programs.sealed(2, 4, "A0 A0 R0 R0 N", "A0", "A0", "A0");
        waits(due, "never held", x, false, -1, -1, -1, -1);
        Programs.steps(x, "000");
        waits(due, "one hold left", x, false, -1, 0, 0, 0);
        x.step(0);
        waits(due, "free again", x, false, -1, -1, -1, -1);
        x.step(2);
        waits(due, "held by another", x, false, -1, 2, -1, 2);
        x.restart();
        waits(due, "restarted", x, false, -1, -1, -1, -1);
    }

    private static void outOfRange(Due due) {
        for (int threads = 1; threads <= 4; threads++) {
            LockLevelTypes x = Programs.sealed(2, threads, "A0 N", "A0", "A0", "A0", "A0");
            x.step(0);
            for (int thread : Programs.NUMBERS) {
                boolean waiting = thread >= 1 && thread <= threads - 1;
                due.same("waitsFor(" + thread + ") of " + threads, x.waitsFor(thread), waiting ? 0 : -1);
            }
        }
    }

    /** Every order of every two, three and four threads in a ring. */
    private static void cyclesOnly(Due due) {
        int[][] rings = {
            {0, 1}, {0, 2}, {0, 3}, {1, 2}, {1, 3}, {2, 3}, {0, 1, 2}, {0, 2, 1}, {0, 1, 3}, {0, 3, 1}, {0, 2, 3}, {0, 3, 2},
            {1, 2, 3}, {1, 3, 2}, {0, 1, 2, 3}, {0, 1, 3, 2}, {0, 2, 1, 3}, {0, 2, 3, 1}, {0, 3, 1, 2}, {0, 3, 2, 1}
        };
        for (int[] ring : rings) {
            LockLevelTypes x = new LockLevelTypes(4, 4);
            int[] want = {-1, -1, -1, -1};
            for (int i = 0; i < ring.length; i++) {
                int next = ring[(i + 1) % ring.length];
                Programs.load(x, ring[i], "A" + ring[i] + " A" + next);
                want[ring[i]] = next;
            }
            x.check();
            for (int thread : ring) {
                due.no("deadlocked before " + thread + " has its lock", x.deadlocked());
                x.step(thread);
            }
            waits(due, "in a ring of " + ring.length, x, true, want);
        }
        LockLevelTypes tooLong = Programs.makeLong(2, 2, "A0 A1 C5", "A1 A0");
        due.same("check of a long run", tooLong.check(), LockLevelTypes.REJECT_LONG);
        Programs.steps(tooLong, "01");
        waits(due, "under a long run", tooLong, true, 1, 0);
    }

    private static void waitsBesideACycle(Due due) {
        LockLevelTypes tail = Programs.sealed(4, 4, "A0 A1", "A1 A2", "A2 A3", "A3 A2");
        Programs.steps(tail, "0123");
        waits(due, "where 0 and 1 lead into a cycle", tail, true, 1, 2, 3, 2);
        LockLevelTypes late = Programs.sealed(4, 4, "A0 A1", "A1 A0", "A2 A1", "A3 A2");
        Programs.steps(late, "0123");
        waits(due, "where 3 and 2 lead into a cycle", late, true, 1, 0, 1, 2);
        LockLevelTypes done = Programs.sealed(4, 4, "", "A1 A3", "N", "A3 A1");
        Programs.steps(done, "132");
        waits(due, "where the others are done", done, true, -1, 3, -1, 1);
        LockLevelTypes pairs = Programs.sealed(4, 4, "A0 A1", "A1 A0", "A2 A3", "A3 A2");
        Programs.steps(pairs, "0123");
        waits(due, "in two pairs", pairs, true, 1, 0, 3, 2);
    }

    private static void noCycle(Due due) {
        waits(due, "of the empty program", Programs.sealed(2, 1), false, -1);
        LockLevelTypes chain = Programs.sealed(4, 4, "A0 N", "A1 A0", "A2 A1", "A3 A2");
        Programs.steps(chain, "0123");
        waits(due, "in a chain of four", chain, false, -1, 0, 1, 2);
        LockLevelTypes upward = Programs.sealed(4, 4, "A0 A1", "A1 A2", "A2 A3", "A3 N");
        Programs.steps(upward, "0123");
        waits(due, "in a chain of four upward", upward, false, 1, 2, 3, -1);
        LockLevelTypes star = Programs.sealed(4, 4, "A3", "A3", "A3", "A3 N");
        Programs.steps(star, "3");
        waits(due, "all for one", star, false, 3, 3, 3, -1);
        LockLevelTypes kept = Programs.sealed(2, 2, "A0", "A0");
        Programs.steps(kept, "011");
        waits(due, "for good, for a thread that is done", kept, false, -1, 0);
        LockLevelTypes cyclic = Programs.sealed(2, 2, "A0 A1 R1 R0", "A1 A0 R0 R1");
        waits(due, "at the start of a program with a cycle", cyclic, false, -1, -1);
        Programs.steps(cyclic, "001");
        waits(due, "on a way around the deadlock", cyclic, false, -1, 0);
    }

    private static void notDeadlockedBeforeSealing(Due due) {
        States.notSealed().forEach((name, state) -> due.no("deadlocked, " + name, state.get().deadlocked()));
        LockLevelTypes x = Programs.make(2, 2, "A0 A1", "A1 A0");
        x.run(0x44444444, 8);
        Programs.steps(x, "01");
        due.no("deadlocked after steps before check", x.deadlocked());
        x.check();
        due.no("deadlocked after check", x.deadlocked());
        Programs.steps(x, "01");
        due.yes("deadlocked after steps", x.deadlocked());
    }

    /** Programs that ACCEPT, with as much waiting as an order leaves. */
    private static LockLevelTypes[] accepted() {
        return new LockLevelTypes[] {
            Programs.make(4, 4, "A0 A1 A2 A3 R0 R1 R2 R3", "A0 A2 R2 R0", "A1 A3 R1 R3", "A2 A3 A2"),
            Programs.make(3, 4, "A2 C4 R2", "C4 A0 R0 R1", "A2 A0 R2 A0", "A2 A2 R2", "A1 A1 R1"),
            Programs.make(2, 4, "A0 A1", "A0 A1 R0", "R0 A0 R0 A1", "A1 R1 A0"),
            Programs.makeLong(2, 2, "C5", "A0 A1 R1")
        };
    }

    /** Walks through schedules of every kind; look is called at every point. */
    private static void walk(Due due, Consumer<LockLevelTypes> look) {
        for (LockLevelTypes x : accepted()) {
            due.same("check", x.check(), LockLevelTypes.ACCEPT);
            look.accept(x);
            for (int seed = 1; seed <= 300; seed++) {
                int script = seed * 0x9E3779B1;
                for (int i = 0; i < 20; i++) {
                    x.step((script >>> i) % 4);
                    look.accept(x);
                    x.run(script, i % 3);
                    look.accept(x);
                }
                x.restart();
                look.accept(x);
            }
        }
    }

    private static void acceptedNeverDeadlocks(Due due) {
        walk(due, x -> due.no("deadlocked under ACCEPT", x.deadlocked()));
    }

    private static void acceptedChainsEnd(Due due) {
        int[] waiting = {0};
        walk(due, x -> {
            for (int thread = 0; thread < 4; thread++) {
                int reached = x.waitsFor(thread);
                waiting[0] += reached >= 0 ? 1 : 0;
                for (int i = 0; i < 4 && reached >= 0; i++) {
                    due.yes("a chain that does not return to " + thread, reached != thread);
                    reached = x.waitsFor(reached);
                }
            }
        });
        due.yes("waits to look at", waiting[0] > 1000);
    }

    private static void acceptedUnderAnyArguments(Due due) {
        for (LockLevelTypes x : accepted()) {
            due.same("check", x.check(), LockLevelTypes.ACCEPT);
            for (int a : Programs.NUMBERS) {
                for (int b : Programs.NUMBERS) {
                    x.step(a);
                    due.no("deadlocked after step(" + a + ")", x.deadlocked());
                    x.run(a * 0x01234567 + b, b);
                    due.no("deadlocked after run", x.deadlocked());
                    x.step(b & 3);
                    due.no("deadlocked after step(" + (b & 3) + ")", x.deadlocked());
                }
                x.restart();
                due.no("deadlocked after restart", x.deadlocked());
            }
        }
    }
}
