/** The boundary cases of "Solo runs, order graph, verdict, levels", a test for each sentence. */
public final class BoundarySoloTest {
    public static void main(String[] args) {
        Sentences.run(BoundarySoloTest::list);
    }

    static void list(Sentences s) {
        s.says("For each thread t < threadCount, in turn, a SOLO RUN", BoundarySoloTest::threadsThatRun);
        s.says("t is started alone with all locks free", BoundarySoloTest::locksFreeAtTheStart);
        s.says("executed one by one until it is done or 513 instructions have executed", BoundarySoloTest::cutAt513);
        s.says("soloLength(t) is that count", BoundarySoloTest::lengths);
        s.says("each ACQ b executed while b is not held by the running thread adds the ORDER EDGE a->b",
            BoundarySoloTest::edgeAtAFreeLock);
        s.says("for every lock a the running thread then holds (hold count > 0)", BoundarySoloTest::edgeFromEveryLockHeld);
        s.says("Instructions of called procedures count and contribute edges like any others",
            BoundarySoloTest::calledProcedures);
        s.says("A reentrant ACQ (b already held) adds no edge", BoundarySoloTest::reentrant);
        s.says("The order graph is the union of the edges over all threads", BoundarySoloTest::union);
        s.says("The verdict is decided by these tests, in this order", BoundarySoloTest::longBeforeCycle);
        s.says("`REJECT_LONG` (2) if some thread's soloLength is 513", BoundarySoloTest::someThreadIsLong);
        s.says("the order graph is then taken as empty", BoundarySoloTest::emptyGraph);
        s.says("`REJECT_CYCLE` (1) if the order graph has a cycle (a path of one or more edges from a lock back to itself)",
            BoundarySoloTest::shortestAndLongestCycle);
        s.says("`ACCEPT` (0) otherwise", BoundarySoloTest::acceptOtherwise);
        s.says("the number of edges of the longest path in the order graph that ends at l", BoundarySoloTest::longestPath);
        s.says("(0 if l has no incoming edge)", BoundarySoloTest::noIncomingEdge);
        s.says("(under ACCEPT only)", BoundarySoloTest::noLevelOtherwise);
        s.says("So every edge a->b has level(a) < level(b)", BoundarySoloTest::levelsRise);
    }

    private static void threadsThatRun(Due due) {
        for (int threads = 1; threads <= 4; threads++) {
            LockLevelTypes x = Programs.sealed(8, threads, "A0 A1", "A1 A2", "A2 A3", "A3 A4", "A4 A5");
            due.same("edges of " + threads + " threads", Programs.edges(x), "0->1 1->2 2->3 3->4 ".substring(0, 5 * threads));
        }
    }

    private static void locksFreeAtTheStart(Due due) {
        LockLevelTypes x = Programs.sealed(4, 4, "A0 A0", "A1 R0", "R0 R1 A0 A1", "A2 A0");
        due.same("edges where each run leaves its locks held", Programs.edges(x), "0->1 2->0 ");
        for (int thread = 0; thread < 4; thread++) {
            due.same("soloLength(" + thread + ")", x.soloLength(thread), thread == 2 ? 4 : 2);
        }
        LockLevelTypes left = Programs.sealed(3, 3, "A0 A0 A1", "A0 R0 A1 R1 A2", "A1 R1 A0 R0 A2");
        due.same("edges where locks left held are taken and given up", Programs.edges(left), "0->1 ");
        LockLevelTypes shared = Programs.make(2, 2, "A1 A0");
        shared.setEntry(1, 0);
        shared.check();
        due.same("edges of two runs of one procedure", Programs.edges(shared), "1->0 ");
    }

    private static void length(Due due, int want, String entry) {
        LockLevelTypes x = Programs.makeLong(2, 1, entry);
        x.check();
        due.same("soloLength of " + entry, x.soloLength(0), want);
    }

    private static void cutAt513(Due due) {
        length(due, 511, "C6 C6 C6 C6 C6 C6 C6");
        length(due, 512, "C5");
        length(due, 513, "C5 N");
        length(due, 513, "C5 N N");
        length(due, 513, "C5 C5 C5 C5 C5 C5 C5 C5");
    }

    private static void lengths(Due due) {
        LockLevelTypes x = Programs.makeLong(2, 4, "", "N", "C5", "C5 C5");
        x.check();
        int[] want = {0, 1, 512, 513};
        for (int thread = 0; thread < 4; thread++) {
            due.same("soloLength(" + thread + ")", x.soloLength(thread), want[thread]);
        }
    }

    private static void edges(Due due, String want, String... procs) {
        LockLevelTypes x = Programs.sealed(8, 1, procs);
        due.same("edges of " + String.join(" | ", procs), Programs.edges(x), want);
    }

    private static void edgeAtAFreeLock(Due due) {
        edges(due, "", "A0");
        edges(due, "0->7 ", "A0 A7");
        edges(due, "7->0 ", "A7 A0");
        edges(due, "", "R0 R1 N");
        edges(due, "0->1 1->0 ", "A0 A1 R0 A0");
        edges(due, "0->1 2->1 ", "A0 A1 R1 R0 A2 A1");
        // A lock given up in full is taken anew, however often it was held.
        edges(due, "0->1 1->0 ", "A0 A0 A1 R0 R0 A0");
    }

    private static void edgeFromEveryLockHeld(Due due) {
        edges(due, "", "A0 R0 A1 R1 A2");
        edges(due, "0->1 ", "A0 A0 R0 A1");
        edges(due, "", "A0 A0 R0 R0 A1");
        edges(due, "", "A0 R0 R0 A1");
        edges(due, "0->1 ", "R0 R0 A0 A1");
        edges(due, "3->0 3->5 5->0 ", "A3 R2 A5 R5 A5 A0");
        LockLevelTypes most = Programs.sealed(8, 1, "A0 A1 A2 A3 A4 A5 A6 A7");
        for (int pair = 0; pair < 64; pair++) {
            int a = pair / 8;
            int b = pair % 8;
            due.same("order(" + a + ", " + b + ") of all locks in turn", most.order(a, b) ? 1 : 0, a < b ? 1 : 0);
        }
    }

    private static void calledProcedures(Due due) {
        edges(due, "0->1 ", "A0 C1", "A1");
        edges(due, "0->1 ", "C1 A1", "A0");
        edges(due, "0->1 ", "C1 C2", "A0", "A1");
        edges(due, "", "C1 A1", "A0 R0");
        edges(due, "", "A0 C1 A1", "R0");
        edges(due, "0->1 ", "A0 C1", "C2", "C3", "C4", "C5", "C6", "C7", "A1");
        edges(due, "", "A0", "A0 A1");
        LockLevelTypes x = Programs.sealed(2, 1, "C1 N", "C2 N", "C3 N", "C4 N", "C5 N", "C6 N", "C7 N", "N");
        due.same("soloLength through eight procedures", x.soloLength(0), 15);
    }

    private static void reentrant(Due due) {
        edges(due, "", "A0 A0 A0");
        edges(due, "0->1 ", "A0 A1 A0");
        edges(due, "0->1 ", "A0 A1 A1 A0 A1");
        edges(due, "0->1 ", "A0 A0 A1 R0 A0");
        edges(due, "0->1 ", "A0 A1 C1", "A0");
    }

    private static void union(Due due) {
        LockLevelTypes four = Programs.sealed(8, 4, "A0 A1", "A1 A2 R1", "A0 A1", "A6 A7");
        due.same("edges of four threads", Programs.edges(four), "0->1 1->2 6->7 ");
        LockLevelTypes both = Programs.make(2, 4, "", "A0 A1", "", "A1 A0");
        due.same("check where two threads make the cycle", both.check(), LockLevelTypes.REJECT_CYCLE);
        due.same("edges of the two", Programs.edges(both), "0->1 1->0 ");
    }

    private static void longBeforeCycle(Due due) {
        due.same("cycle, then long", Programs.makeLong(2, 2, "A0 A1 R0 A0", "C5 N").check(), LockLevelTypes.REJECT_LONG);
        due.same("long, then cycle", Programs.makeLong(2, 2, "C5 N", "A0 A1 R0 A0").check(), LockLevelTypes.REJECT_LONG);
        due.same("both in one thread", Programs.makeLong(2, 1, "A0 A1 R0 A0 C5").check(), LockLevelTypes.REJECT_LONG);
        due.same("cycle beside 512", Programs.makeLong(2, 2, "C5", "A0 A1 R0 A0").check(), LockLevelTypes.REJECT_CYCLE);
    }

    private static void someThreadIsLong(Due due) {
        for (int thread = 0; thread < 4; thread++) {
            LockLevelTypes x = Programs.make(2, 4, "", "", "", "", "C5 N");
            Programs.loadLong(x);
            x.setEntry(thread, 4);
            due.same("check where thread " + thread + " is long", x.check(), LockLevelTypes.REJECT_LONG);
            LockLevelTypes fits = Programs.make(2, 4, "", "", "", "", "C5");
            Programs.loadLong(fits);
            fits.setEntry(thread, 4);
            due.same("check where thread " + thread + " just fits", fits.check(), LockLevelTypes.ACCEPT);
        }
        LockLevelTypes none = Programs.makeLong(2, 3, "", "", "", "C5 N");
        due.same("check where the long procedure has no thread", none.check(), LockLevelTypes.ACCEPT);
    }

    private static void emptyGraph(Due due) {
        String[][] programs = {{"A0 A1 C5", "A2 A3"}, {"A2 A3", "C5 A0 A1"}, {"C5 N", "A0 A1 R0 A0"}, {"A0 A1 R0 A0", "C5 C5"}};
        for (String[] procs : programs) {
            LockLevelTypes x = Programs.makeLong(4, 2, procs);
            due.same("check of " + String.join(" | ", procs), x.check(), LockLevelTypes.REJECT_LONG);
            due.same("edges of " + String.join(" | ", procs), Programs.edges(x), "");
            due.same("cycleLock of " + String.join(" | ", procs), x.cycleLock(), -1);
        }
    }

    /** Locks 0 to n-1 in a ring, each given up once the next is held. */
    private static LockLevelTypes ring(int n, boolean closed) {
        LockLevelTypes x = Programs.make(8, 1, "A0 C1 C2 C3 C4 C5");
        for (int lock = 1; lock < n; lock++) {
            Programs.load(x, (lock + 1) / 2, "A" + lock + " R" + (lock - 1));
        }
        Programs.load(x, 5, closed ? "A0" : "R0");
        return x;
    }

    private static void shortestAndLongestCycle(Due due) {
        for (int n = 2; n <= 8; n++) {
            due.same("closed ring of " + n, ring(n, true).check(), LockLevelTypes.REJECT_CYCLE);
            due.same("open ring of " + n, ring(n, false).check(), LockLevelTypes.ACCEPT);
        }
        due.same("a lock taken again is no cycle of one edge", Programs.make(2, 1, "A0 A0").check(), LockLevelTypes.ACCEPT);
        due.same("the last two locks", Programs.make(8, 1, "A6 A7 R6 A6").check(), LockLevelTypes.REJECT_CYCLE);
    }

    private static void acceptOtherwise(Due due) {
        due.same("empty program", new LockLevelTypes(2, 1).check(), LockLevelTypes.ACCEPT);
        due.same("empty program, largest", new LockLevelTypes(8, 4).check(), LockLevelTypes.ACCEPT);
        due.same("every edge upward", Programs.make(8, 1, "A0 A1 A2 A3 A4 A5 A6 A7").check(), LockLevelTypes.ACCEPT);
        due.same("every edge downward", Programs.make(8, 1, "A7 A6 A5 A4 A3 A2 A1 A0").check(), LockLevelTypes.ACCEPT);
        due.same("512 instructions", Programs.makeLong(8, 1, "C5").check(), LockLevelTypes.ACCEPT);
        due.same("two ways without a cycle", Programs.make(3, 2, "A0 A1 A2", "A0 A2 R0").check(), LockLevelTypes.ACCEPT);
    }

    private static void longestPath(Due due) {
        for (int n = 2; n <= 8; n++) {
            LockLevelTypes x = ring(n, false);
            x.check();
            for (int lock = 0; lock < 8; lock++) {
                due.same("level(" + lock + ") in a chain of " + n, x.level(lock), lock < n ? lock : 0);
            }
        }
        LockLevelTypes down = Programs.sealed(8, 1, "A7 A6 A5 A4 A3 A2 A1 A0");
        for (int lock = 0; lock < 8; lock++) {
            due.same("level(" + lock + ") where every lower lock follows", down.level(lock), 7 - lock);
        }
        LockLevelTypes ways = Programs.sealed(4, 2, "A3 A0", "A3 A1 R3 A2 R1 A0");
        due.same("a way of one edge and one of three", ways.level(0), 3);
    }

    private static void noIncomingEdge(Due due) {
        LockLevelTypes x = Programs.sealed(8, 1, "A7 A3 R7 R3 A5 R5");
        int[] want = {0, 0, 0, 1, 0, 0, 0, 0};
        for (int lock = 0; lock < 8; lock++) {
            due.same("level(" + lock + ")", x.level(lock), want[lock]);
        }
        LockLevelTypes empty = Programs.sealed(2, 1, "");
        due.same("level(0) of the empty program", empty.level(0), 0);
        due.same("level(1) of the empty program", empty.level(1), 0);
    }

    private static void noLevelOtherwise(Due due) {
        LockLevelTypes cyclic = Programs.sealed(8, 2, "A0 A1 R0 A0", "A2 A3");
        LockLevelTypes tooLong = Programs.makeLong(8, 2, "C5 N", "A2 A3");
        tooLong.check();
        for (int lock = 0; lock < 8; lock++) {
            due.same("level(" + lock + ") under a cycle", cyclic.level(lock), -1);
            due.same("level(" + lock + ") under a long run", tooLong.level(lock), -1);
        }
    }

    private static void levelsRise(Due due) {
        LockLevelTypes[] accepted = {
            Programs.sealed(8, 1, "A0 A1 A2 A3 A4 A5 A6 A7"), Programs.sealed(8, 1, "A7 A6 A5 A4 A3 A2 A1 A0"),
            Programs.sealed(8, 4, "A3 A7 A0", "A7 A5 R7 A1", "A0 A5 R0 A6", "A6 A2 R6 A4"), Programs.sealed(2, 1, "A1 A0")
        };
        int[] want = {28, 28, 9, 1};
        for (int i = 0; i < accepted.length; i++) {
            LockLevelTypes x = accepted[i];
            int edges = 0;
            due.same("check", x.check(), LockLevelTypes.ACCEPT);
            for (int pair = 0; pair < 64; pair++) {
                if (x.order(pair / 8, pair % 8)) {
                    edges++;
                    due.yes("level(" + pair / 8 + ") < level(" + pair % 8 + ")", x.level(pair / 8) < x.level(pair % 8));
                }
            }
            due.same("edges looked at", edges, want[i]);
        }
    }
}
