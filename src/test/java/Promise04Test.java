/** Promise 4: check, with the solo runs, the order graph and the verdict that it rests on. */
public final class Promise04Test {
    private static final Due due = new Due();

    public static void main(String[] args) {
        seals();
        verdicts();
        edges();
        longComesFirst();
        soloRunsLeaveNoTrace();
        soloRunsDoNotMeet();
        laterCallsChangeNothing();
        due.end();
    }

    private static void seals() {
        LockLevelTypes x = Programs.make(2, 1, "N");
        due.same("check", x.check(), LockLevelTypes.ACCEPT);
        due.same("emit after check", x.emit(0, 0, 0), LockLevelTypes.ERR_SEALED);
        due.no("setEntry after check", x.setEntry(0, 0));
        due.yes("restart after check", x.restart());
        LockLevelTypes cyclic = Programs.make(2, 2, "A0 A1", "A1 A0");
        due.same("check of a cycle", cyclic.check(), LockLevelTypes.REJECT_CYCLE);
        due.same("emit after a cycle", cyclic.emit(0, 0, 0), LockLevelTypes.ERR_SEALED);
        due.no("setEntry after a cycle", cyclic.setEntry(0, 0));
        LockLevelTypes tooLong = withLong("N N C5");
        due.same("check of a long run", tooLong.check(), LockLevelTypes.REJECT_LONG);
        due.same("emit after a long run", tooLong.emit(0, 0, 0), LockLevelTypes.ERR_SEALED);
        due.no("setEntry after a long run", tooLong.setEntry(0, 0));
    }

    private static LockLevelTypes withLong(String... procs) {
        LockLevelTypes x = Programs.make(4, procs.length, procs);
        Programs.loadLong(x);
        return x;
    }

    private static void verdict(int want, int locks, int threads, String... procs) {
        LockLevelTypes x = Programs.make(locks, threads, procs);
        due.same("verdict of " + String.join(" | ", procs), x.check(), want);
    }

    private static void verdicts() {
        int accept = LockLevelTypes.ACCEPT;
        int cycle = LockLevelTypes.REJECT_CYCLE;
        verdict(accept, 2, 2, "A0 A1 R1 R0", "A0 A1 R1 R0");
        verdict(cycle, 2, 2, "A0 A1 R1 R0", "A1 A0 R0 R1");
        verdict(accept, 2, 2, "A0 R0 A1 R1", "A1 R1 A0 R0");
        // One thread can close a cycle alone.
        verdict(cycle, 2, 1, "A0 A1 R0 A0");
        // What no thread runs does not count.
        verdict(accept, 2, 1, "A0 A1 R1 R0", "A1 A0 R0 R1");
        verdict(accept, 2, 2, "A0 A1 R1 R0", "", "A1 A0 R0 R1");
        verdict(cycle, 2, 3, "A0 A1 R1 R0", "", "A1 A0 R0 R1");
        verdict(cycle, 2, 4, "A0 A1", "", "", "A1 A0");
        // Locks taken again add nothing.
        verdict(accept, 2, 1, "A0 A1 A0 R0 R1 R0");
        verdict(accept, 2, 1, "A0 A0 A0");
        // A cycle through every lock, one edge from each procedure of each thread.
        verdict(cycle, 3, 3, "A0 A1", "A1 A2", "A2 A0");
        verdict(accept, 3, 3, "A0 A1", "A1 A2", "A0 A2");
        verdict(cycle, 4, 4, "A3 A2", "A2 A1", "A1 A0", "A0 A3");
        verdict(cycle, 8, 1, "A0 A1 R0 A2 R1 A3 R2 C1", "A4 R3 A5 R4 A6 R5 A7 C2", "R6 A0");
        verdict(accept, 8, 1, "A0 A1 R0 A2 R1 A3 R2 C1", "A4 R3 A5 R4 A6 R5 A7 C2", "R6 R7 A0");
        // Calls carry what is held both ways.
        verdict(cycle, 2, 2, "A0 C2", "A1 C3", "A1", "A0");
        verdict(cycle, 2, 2, "C2 A1", "A1 A0", "A0");
        verdict(accept, 2, 2, "C2 A1", "A1 A0", "A0 R0");
    }

    private static void edge(String text, boolean first, boolean second) {
        LockLevelTypes x = Programs.sealed(3, 1, text);
        due.same("0->1 of " + text, x.order(0, 1) ? 1 : 0, first ? 1 : 0);
        due.same("1->0 of " + text, x.order(1, 0) ? 1 : 0, second ? 1 : 0);
    }

    private static void edges() {
        edge("A0 A1", true, false);
        edge("A1 A0", false, true);
        edge("A0 R0 A1", false, false);
        edge("A0 A0 R0 A1", true, false);
        edge("A0 A0 R0 R0 A1", false, false);
        edge("A0 A0 R0 R0 R0 A1", false, false);
        edge("R0 A0 A1", true, false);
        edge("R0 R0 A0 R0 A1", false, false);
        edge("A0 R1 A1", true, false);
        edge("A0 A1 A0", true, false);
        edge("A0 A1 R0 A0", true, true);
        edge("A0 A1 R0 R1 A1 A0", true, true);
        edge("A0 N A2 R2 N A1", true, false);
    }

    private static void longComesFirst() {
        due.same("check of 513", withLong("N C5").check(), LockLevelTypes.REJECT_LONG);
        due.same("check of 512", withLong("C5").check(), LockLevelTypes.ACCEPT);
        due.same("check of 514", withLong("N N C5").check(), LockLevelTypes.REJECT_LONG);
        due.same("long with a cycle before it", withLong("A0 A1 R0 A0 C5").check(), LockLevelTypes.REJECT_LONG);
        due.same("long in thread 1, cycle in thread 0", withLong("A0 A1 R0 A0", "N C5").check(), LockLevelTypes.REJECT_LONG);
        due.same("long in thread 0, cycle in thread 1", withLong("N C5", "A0 A1 R0 A0").check(), LockLevelTypes.REJECT_LONG);
        due.same("512 with a cycle", withLong("C5", "A0 A1 R0 A0").check(), LockLevelTypes.REJECT_CYCLE);
        LockLevelTypes unused = Programs.make(4, 1, "N", "N N C5");
        Programs.loadLong(unused);
        due.same("long where no thread starts", unused.check(), LockLevelTypes.ACCEPT);
        LockLevelTypes last = Programs.make(4, 4, "", "", "", "N C5");
        Programs.loadLong(last);
        due.same("long in the last thread", last.check(), LockLevelTypes.REJECT_LONG);
    }

    private static void soloRunsLeaveNoTrace() {
        LockLevelTypes x = Programs.sealed(3, 3, "A0 A1 A1 C3", "A2 N", "", "N");
        String free = "-1x0 -1x0 -1x0 -1x0 -1x0 -1x0 -1x0 -1x0 -1x0 -1x0 ";
        due.same("machine after check", Programs.machine(x), free + "-1:-1>-1 0:0>-1 1:0>-1 -1:-1>-1 -1:-1>-1 -1:-1>-1 false");
        LockLevelTypes cut = withLong("A0 A1 C5", "A0");
        cut.check();
        due.same("machine after a long run", Programs.machine(cut), free + "-1:-1>-1 0:0>-1 1:0>-1 -1:-1>-1 -1:-1>-1 -1:-1>-1 false");
    }

    /** Each solo run starts with all locks free, whatever the one before left held. */
    private static void soloRunsDoNotMeet() {
        LockLevelTypes x = Programs.make(3, 3, "A0", "A1 A0 N", "A2");
        due.same("check of runs that would meet", x.check(), LockLevelTypes.ACCEPT);
        due.same("findings of runs that would meet", Programs.findings(x),
            "1->0 levels -1 1 0 0 -1 -1 -1 -1 -1 -1 cycle -1 solo -1 1 3 1 -1 -1");
        LockLevelTypes same = Programs.make(2, 2, "A0 A1");
        same.setEntry(1, 0);
        due.same("check of two threads in one procedure", same.check(), LockLevelTypes.ACCEPT);
        due.same("findings of two threads in one procedure", Programs.findings(same),
            "0->1 levels -1 0 1 -1 -1 -1 -1 -1 -1 -1 cycle -1 solo -1 2 2 -1 -1 -1");
        LockLevelTypes release = Programs.make(2, 2, "A0", "R0 A1");
        due.same("check where a release would meet", release.check(), LockLevelTypes.ACCEPT);
        due.no("edge from a lock another run left", release.order(0, 1));
    }

    private static void laterCallsChangeNothing() {
        LockLevelTypes[] objects = {
            Programs.make(2, 2, "A0 A1 R1 R0", "A0 A1 R1 R0"),
            Programs.make(2, 2, "A0 A1 R1 R0", "A1 A0 R0 R1"),
            withLong("A0 A1 N C5", "A1 A0 R0 R1")
        };
        for (int want = 0; want < objects.length; want++) {
            LockLevelTypes x = objects[want];
            due.same("first check", x.check(), want);
            String start = Programs.all(x);
            due.same("second check", x.check(), want);
            due.same("all after the second check", Programs.all(x), start);
            for (String schedule : new String[] {"0", "1", "0", "1", "0000", "1111"}) {
                Programs.steps(x, schedule);
                String before = Programs.all(x);
                due.same("check after steps", x.check(), want);
                due.same("check once more", x.check(), want);
                due.same("all after check after steps", Programs.all(x), before);
            }
            x.restart();
            due.same("check after restart", x.check(), want);
            due.same("all after restart", Programs.all(x), start);
        }
    }
}
