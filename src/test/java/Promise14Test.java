/** Promise 14: waitsFor and deadlocked. */
public final class Promise14Test {
    private static final Due due = new Due();

    public static void main(String[] args) {
        everyPair();
        waitsForNone();
        cycles();
        waitsBesideACycle();
        waitsWithoutACycle();
        outOfRange();
        changeNothing();
        acceptNeverDeadlocks();
        due.end();
    }

    private static void waits(String what, LockLevelTypes x, boolean deadlocked, int... want) {
        for (int thread = 0; thread < want.length; thread++) {
            due.same("waitsFor(" + thread + ") " + what, x.waitsFor(thread), want[thread]);
        }
        due.same("deadlocked " + what, x.deadlocked() ? 1 : 0, deadlocked ? 1 : 0);
    }

    private static void everyPair() {
        for (int t = 0; t < 4; t++) {
            for (int u = 0; u < 4; u++) {
                if (t != u) {
                    LockLevelTypes x = new LockLevelTypes(8, 4);
                    Programs.load(x, t, "A5 N");
                    Programs.load(x, u, "A5 R5 N");
                    x.check();
                    waits("at the start", x, false, -1, -1, -1, -1);
                    x.step(u);
                    due.same("waitsFor(" + t + ")", x.waitsFor(t), u);
                    due.same("waitsFor(" + u + ")", x.waitsFor(u), -1);
                    due.same("step of the waiting thread", x.step(t), LockLevelTypes.STEP_BLOCKED);
                    due.same("waitsFor(" + t + ") once blocked", x.waitsFor(t), u);
                    due.no("deadlocked with one wait", x.deadlocked());
                    x.step(u);
                    due.same("waitsFor(" + t + ") once free", x.waitsFor(t), -1);
                }
            }
        }
    }

    private static void waitsForNone() {
        LockLevelTypes own = Programs.sealed(2, 1, "A0 A0 R0");
        own.step(0);
        waits("its own lock", own, false, -1);
        LockLevelTypes others = Programs.sealed(2, 4, "A0 N", "R0 N", "N", "C4 N", "A0");
        waits("before anything is held", others, false, -1, -1, -1, -1);
        others.step(0);
        waits("at a release, a NOP and a call", others, false, -1, -1, -1, -1);
        others.step(3);
        waits("once the call is made", others, false, -1, -1, -1, 0);
        LockLevelTypes done = Programs.sealed(2, 2, "A0", "A0");
        done.step(0);
        waits("for a thread that is done", done, false, -1, 0);
        LockLevelTypes last = Programs.sealed(2, 2, "A1 A0", "A0 A1 N");
        Programs.steps(last, "00");
        due.same("a done thread waits for none", last.waitsFor(0), -1);
        due.same("the other waits for it", last.waitsFor(1), 0);
        LockLevelTypes nops = Programs.sealed(2, 2, "A0 A1 N", "N N");
        Programs.steps(nops, "00");
        waits("NOPs beside held locks", nops, false, -1, -1);
    }

    private static void cycles() {
        LockLevelTypes two = Programs.sealed(2, 2, "A0 A1", "A1 A0");
        two.step(0);
        waits("before the second take", two, false, -1, -1);
        two.step(1);
        waits("of two, with no step blocked yet", two, true, 1, 0);
        Programs.steps(two, "0101");
        waits("of two, after blocked steps", two, true, 1, 0);
        two.restart();
        waits("after restart", two, false, -1, -1);
        LockLevelTypes three = Programs.sealed(3, 3, "A0 A1", "A1 A2", "A2 A0");
        Programs.steps(three, "01");
        waits("of three, one short", three, false, 1, -1, -1);
        Programs.steps(three, "2");
        waits("of three", three, true, 1, 2, 0);
        LockLevelTypes four = Programs.sealed(4, 4, "A0 A3", "A1 A0", "A2 A1", "A3 A2");
        Programs.steps(four, "012");
        waits("of four, one short", four, false, -1, 0, 1, -1);
        Programs.steps(four, "3");
        waits("of four", four, true, 3, 0, 1, 2);
        LockLevelTypes mixed = Programs.sealed(4, 4, "A0 A2", "A1 A3", "A2 A1", "A3 A0");
        Programs.steps(mixed, "0123");
        waits("of four in another order", mixed, true, 2, 3, 1, 0);
        for (int t = 0; t < 4; t++) {
            for (int u = t + 1; u < 4; u++) {
                LockLevelTypes pair = new LockLevelTypes(2, 4);
                Programs.load(pair, t, "A0 A1");
                Programs.load(pair, u, "A1 A0");
                pair.check();
                pair.step(t);
                pair.step(u);
                due.yes("deadlocked of " + t + " and " + u, pair.deadlocked());
            }
        }
        LockLevelTypes called = Programs.make(2, 2, "A0 C2", "A1 C3", "N A1", "A0");
        called.check();
        due.same("steps into calls", Programs.steps(called, "00011"), "00000");
        waits("in called procedures", called, true, 1, 0);
    }

    private static void waitsBesideACycle() {
        LockLevelTypes leads = Programs.sealed(3, 3, "N A1", "A1 A2", "A2 A1");
        Programs.steps(leads, "012");
        waits("thread 0 leads into the cycle", leads, true, 1, 2, 1);
        LockLevelTypes chain = Programs.sealed(4, 4, "A0 A1 N", "A1 A2 N", "A2 A3 N", "A3 A2 N");
        Programs.steps(chain, "0123");
        waits("threads 0 and 1 lead into the cycle", chain, true, 1, 2, 3, 2);
        LockLevelTypes twice = Programs.sealed(4, 4, "A0 A1", "A1 A0", "A2 A3", "A3 A2");
        Programs.steps(twice, "23");
        waits("the second of two pairs", twice, true, -1, -1, 3, 2);
        Programs.steps(twice, "01");
        waits("both pairs", twice, true, 1, 0, 3, 2);
        LockLevelTypes free = Programs.sealed(4, 4, "N N", "A1 A2", "", "A2 A1");
        Programs.steps(free, "13");
        waits("others go on", free, true, -1, 3, -1, 1);
        due.same("step of another", free.step(0), LockLevelTypes.STEP_OK);
        due.yes("still deadlocked", free.deadlocked());
    }

    private static void waitsWithoutACycle() {
        LockLevelTypes chain = Programs.sealed(4, 4, "A0 A1", "A1 A2", "A2 A3", "A3 N");
        Programs.steps(chain, "0123");
        waits("a chain of four", chain, false, 1, 2, 3, -1);
        LockLevelTypes star = Programs.sealed(4, 4, "A0", "A0 N N", "A0", "A0");
        star.step(1);
        waits("all for one", star, false, 1, -1, 1, 1);
        LockLevelTypes ended = Programs.sealed(2, 3, "A0 A1", "A1", "A0");
        Programs.steps(ended, "10");
        waits("a chain to a thread that is done", ended, false, 1, -1, 0);
        // A cycle in the order graph is not yet a deadlock.
        LockLevelTypes cyclic = Programs.make(2, 2, "A0 A1 R1 R0", "A1 A0 R0 R1");
        due.same("check", cyclic.check(), LockLevelTypes.REJECT_CYCLE);
        waits("at the start", cyclic, false, -1, -1);
        cyclic.run(0, 4);
        cyclic.run(0x55555555, 2);
        waits("one after the other", cyclic, false, -1, -1);
    }

    private static void outOfRange() {
        for (int threads = 1; threads <= 4; threads++) {
            LockLevelTypes x = Programs.make(2, threads, "A0 N", "A0", "A0", "A0");
            for (int thread : Programs.NUMBERS) {
                due.same("waitsFor(" + thread + ") before check", x.waitsFor(thread), -1);
            }
            due.no("deadlocked before check", x.deadlocked());
            x.check();
            x.step(0);
            for (int thread : Programs.NUMBERS) {
                boolean waiting = thread > 0 && thread < threads;
                due.same("waitsFor(" + thread + ") of " + threads, x.waitsFor(thread), waiting ? 0 : -1);
            }
            due.no("deadlocked of " + threads, x.deadlocked());
        }
    }

    private static void changeNothing() {
        LockLevelTypes x = Programs.sealed(2, 3, "A0 A1 N", "A1 A0 N", "A0 N");
        for (String schedule : new String[] {"", "0", "1", "012"}) {
            Programs.steps(x, schedule);
            String before = Programs.all(x);
            for (int thread : Programs.NUMBERS) {
                x.waitsFor(thread);
            }
            x.deadlocked();
            due.same("all after waitsFor and deadlocked", Programs.all(x), before);
        }
    }

    private static void acceptNeverDeadlocks() {
        String[][] programs = {
            {"A0 A1 R1 R0", "A0 A1 R1 R0", "A0 R0 A1 R1", "A1 R1 A0 R0"},
            {"A0 A1 A2 R2 R1 R0", "A1 A2 R1 R2", "A0 A2 R0", "A0 C4 R0", "A1 R1 A2 R2"},
            {"A2 A2 C4 R2", "A2 R2 A0", "C4 A1", "R2 A0 R0 A2", "A1 R1"}
        };
        for (String[] procs : programs) {
            LockLevelTypes x = Programs.make(3, 4, procs);
            due.same("check", x.check(), LockLevelTypes.ACCEPT);
            for (int script = 1; script < 4000; script += 7) {
                int mixed = script * 0x9E3779B1;
                for (int i = 0; i < 24; i++) {
                    x.run(mixed, i % 5);
                    x.step(i % 6 - 1);
                    mixed = mixed * 5 + i;
                    due.no("deadlocked under ACCEPT", x.deadlocked());
                    noChainReturns(x);
                }
                x.restart();
            }
        }
    }

    private static void noChainReturns(LockLevelTypes x) {
        for (int thread = 0; thread < 4; thread++) {
            int reached = x.waitsFor(thread);
            for (int i = 0; i < 4 && reached >= 0; i++) {
                due.yes("chain of " + thread + " does not return", reached != thread);
                reached = x.waitsFor(reached);
            }
        }
    }
}
