/** Promise 11: soloLength. */
public final class Promise11Test {
    private static final Due due = new Due();

    public static void main(String[] args) {
        counts();
        theLimit();
        outOfRange();
        machineStepsDoNotCount();
        due.end();
    }

    private static void counts() {
        LockLevelTypes x = Programs.sealed(2, 4, "A0 A0 R1 N R0", "", "C3 C4 N", "C4 C5 C4", "N N");
        due.same("five instructions", x.soloLength(0), 5);
        due.same("done as soon as it starts", x.soloLength(1), 0);
        due.same("calls and what they run", x.soloLength(2), 1 + 7 + 1 + 2 + 1);
        due.same("calls of an empty procedure too", x.soloLength(3), 7);
        // What another thread holds at its end blocks no solo run.
        LockLevelTypes kept = Programs.sealed(2, 3, "A0", "A0 N", "N A0 A0");
        due.same("keeps the lock", kept.soloLength(0), 1);
        due.same("takes it too", kept.soloLength(1), 2);
        due.same("takes it twice", kept.soloLength(2), 3);
        LockLevelTypes cyclic = Programs.sealed(2, 2, "A0 A1 R1 R0", "A1 A0");
        due.same("under a cycle", cyclic.soloLength(0), 4);
        due.same("under a cycle", cyclic.soloLength(1), 2);
    }

    private static void limit(String text, int want, int verdict) {
        LockLevelTypes x = Programs.make(2, 2, text, "N N");
        Programs.loadLong(x);
        due.same("check of " + text, x.check(), verdict);
        due.same("soloLength of " + text, x.soloLength(0), want);
        due.same("soloLength beside " + text, x.soloLength(1), 2);
    }

    private static void theLimit() {
        limit("C6", 73, LockLevelTypes.ACCEPT);
        limit("C5", 512, LockLevelTypes.ACCEPT);
        limit("N C5", 513, LockLevelTypes.REJECT_LONG);
        limit("C5 N", 513, LockLevelTypes.REJECT_LONG);
        limit("C5 N N", 513, LockLevelTypes.REJECT_LONG);
        limit("N N C5", 513, LockLevelTypes.REJECT_LONG);
        limit("C5 C5 C5 C5", 513, LockLevelTypes.REJECT_LONG);
        LockLevelTypes less = Programs.make(2, 1, "C5");
        less.setEntry(0, 5);
        Programs.loadLong(less);
        less.check();
        due.same("511 instructions", less.soloLength(0), 511);
        LockLevelTypes all = Programs.make(2, 4, "C5", "N C5", "N N", "C5 C5");
        Programs.loadLong(all);
        due.same("check of a long run between others", all.check(), LockLevelTypes.REJECT_LONG);
        int[] want = {512, 513, 2, 513};
        for (int thread = 0; thread < 4; thread++) {
            due.same("soloLength(" + thread + ") beside a long run", all.soloLength(thread), want[thread]);
        }
    }

    private static void outOfRange() {
        for (int threads = 1; threads <= 4; threads++) {
            LockLevelTypes x = Programs.make(2, threads, "N", "N N", "N N N", "N N N N");
            for (int thread : Programs.NUMBERS) {
                due.same("soloLength(" + thread + ") before check", x.soloLength(thread), -1);
            }
            x.check();
            for (int thread : Programs.NUMBERS) {
                boolean inside = thread >= 0 && thread < threads;
                due.same("soloLength(" + thread + ") of " + threads, x.soloLength(thread), inside ? thread + 1 : -1);
            }
        }
    }

    private static void machineStepsDoNotCount() {
        LockLevelTypes x = Programs.sealed(2, 2, "A0 A1 N", "A1 A0");
        String before = Programs.findings(x);
        String machine = Programs.machine(x);
        for (int thread : Programs.NUMBERS) {
            x.soloLength(thread);
        }
        due.same("machine after soloLength", Programs.machine(x), machine);
        for (int i = 0; i < 8; i++) {
            x.step(i % 2);
            due.same("findings after a step", Programs.findings(x), before);
        }
        x.run(0x44444444, 100);
        x.restart();
        x.run(0, 2);
        due.same("findings after runs", Programs.findings(x), before);
    }
}
