/** Promise 7: run. */
public final class Promise07Test {
    private static final Due due = new Due();

    public static void main(String[] args) {
        notSealed();
        clampsSteps();
        readsEveryField();
        wrapsThreads();
        countsExecutedStepsOnly();
        sameAsSteps();
        due.end();
    }

    private static void notSealed() {
        LockLevelTypes x = Programs.make(2, 1, "A0 N");
        due.same("run before check", x.run(0, 5), -1);
        due.same("run of 0 steps before check", x.run(0, 0), -1);
        x.check();
        due.same("framePc after it", x.framePc(0), 0);
        due.same("holder after it", x.holder(0), -1);
    }

    /** Thread 0 can run 4680 steps: more than any script may make. */
    private static LockLevelTypes endless() {
        return Programs.sealed(2, 1, "C5 C5 C5 C5 C5 C5 C5 C5", "", "", "", "",
            "C6 C6 C6 C6 C6 C6 C6 C6", "C7 C7 C7 C7 C7 C7 C7 C7", "N N N N N N N N");
    }

    private static void clampsSteps() {
        int[][] cases = {
            {Integer.MIN_VALUE, 0}, {-1024, 0}, {-1, 0}, {0, 0}, {1, 1}, {15, 15}, {16, 16}, {17, 17}, {1023, 1023},
            {1024, 1024}, {1025, 1024}, {2048, 1024}, {65536, 1024}, {Integer.MAX_VALUE, 1024}
        };
        for (int[] one : cases) {
            LockLevelTypes x = endless();
            due.same("run(0, " + one[0] + ")", x.run(0, one[0]), one[1]);
            int left = 0;
            while (left < 5000 && x.step(0) == LockLevelTypes.STEP_OK) {
                left++;
            }
            due.same("steps left after run(0, " + one[0] + ")", left, 4680 - one[1]);
        }
        LockLevelTypes x = endless();
        String start = Programs.machine(x);
        x.run(-1, -5);
        x.run(-1, 0);
        due.same("machine after runs of 0 steps", Programs.machine(x), start);
    }

    private static LockLevelTypes fourCounters() {
        return Programs.sealed(2, 4, "N N N N N N N N", "N N N N N N N N", "N N N N N N N N", "N N N N N N N N");
    }

    private static void pcs(String what, LockLevelTypes x, int... want) {
        for (int thread = 0; thread < want.length; thread++) {
            due.same(what + " framePc(" + thread + ")", x.framePc(thread), want[thread]);
        }
    }

    private static void readsEveryField() {
        for (int field = 0; field < 16; field++) {
            for (int thread = 1; thread < 4; thread++) {
                LockLevelTypes x = fourCounters();
                int script = thread << (2 * field);
                x.run(script, Math.min(field, 7));
                pcs("before field " + field, x, Math.min(field, 7), 0, 0, 0);
                x.restart();
                x.run(script, field + 1);
                due.same("thread of field " + field, x.framePc(thread), 1);
                x.restart();
                x.run(script, field + 16);
                due.same("once before the script repeats, field " + field, x.framePc(thread), 1);
                x.restart();
                x.run(script, field + 17);
                due.same("again after the script repeats, field " + field, x.framePc(thread), 2);
            }
        }
        LockLevelTypes x = fourCounters();
        due.same("run of 3, 2, 1, 0", x.run(0x1B1B1B1B, 6), 6);
        pcs("3, 2, 1, 0, 3, 2", x, 1, 1, 2, 2);
        LockLevelTypes sign = fourCounters();
        sign.run(Integer.MIN_VALUE, 16);
        due.same("the sign bit is the high bit of field 15", sign.framePc(2), 1);
        due.same("no sign extension", sign.framePc(3), 0);
        LockLevelTypes high = fourCounters();
        high.run(0xC0000000, 16);
        due.same("field 15 of 0xC0000000", high.framePc(3), 1);
        LockLevelTypes all = fourCounters();
        due.same("run(-1, 7)", all.run(-1, 7), 7);
        pcs("only thread 3", all, 0, 0, 0, 7);
    }

    private static void wrapsThreads() {
        String eight = "N N N N N N N N";
        LockLevelTypes one = Programs.sealed(2, 1, eight, eight, eight, eight);
        due.same("run(0xE4, 4) with 1 thread", one.run(0xE4, 4), 4);
        pcs("1 thread", one, 4, -1, -1, -1);
        LockLevelTypes two = Programs.sealed(2, 2, eight, eight, eight, eight);
        due.same("run(0xE4, 4) with 2 threads", two.run(0xE4, 4), 4);
        pcs("2 threads", two, 2, 2, -1, -1);
        LockLevelTypes three = Programs.sealed(2, 3, eight, eight, eight, eight);
        due.same("run(0xE4, 4) with 3 threads", three.run(0xE4, 4), 4);
        pcs("3 threads", three, 2, 1, 1, -1);
        LockLevelTypes four = Programs.sealed(2, 4, eight, eight, eight, eight);
        due.same("run(0xE4, 4) with 4 threads", four.run(0xE4, 4), 4);
        pcs("4 threads", four, 1, 1, 1, 1);
    }

    private static void countsExecutedStepsOnly() {
        LockLevelTypes blocked = Programs.sealed(2, 2, "A0 N N R0", "A0 R0");
        due.same("0 then 1s", blocked.run(0x55555554, 16), 1);
        due.same("1s alone", blocked.run(0x55555555, 1024), 0);
        due.same("0s to the end", blocked.run(0, 1024), 3);
        due.same("1s to the end", blocked.run(0x55555555, 1024), 2);
        due.same("all done", blocked.run(0x11111111, 1024), 0);
        LockLevelTypes deadlock = Programs.sealed(2, 2, "A0 A1", "A1 A0");
        due.same("into the deadlock", deadlock.run(0x44444444, 1024), 2);
        due.yes("deadlocked after it", deadlock.deadlocked());
        due.same("within the deadlock", deadlock.run(0x44444444, 1024), 0);
    }

    private static void sameAsSteps() {
        int[] scripts = {0, -1, 0x1B1B1B1B, 0xE4E4E4E4, 0x44444444, 0x99999999, 0x12345678, 0xCAFEBABE, Integer.MIN_VALUE};
        for (int threads = 1; threads <= 4; threads++) {
            for (int script : scripts) {
                for (int steps : new int[] {1, 2, 5, 16, 19, 33, 40}) {
                    LockLevelTypes whole = mixed(threads);
                    LockLevelTypes single = mixed(threads);
                    int want = 0;
                    for (int i = 0; i < steps; i++) {
                        long unsigned = script & 0xFFFFFFFFL;
                        int field = (int) (unsigned / (1L << (2 * (i % 16))) % 4);
                        want += single.step(field % threads) == LockLevelTypes.STEP_OK ? 1 : 0;
                    }
                    String call = "run(" + script + ", " + steps + ") with " + threads + " threads";
                    due.same(call, whole.run(script, steps), want);
                    due.same("all after " + call, Programs.all(whole), Programs.all(single));
                }
            }
        }
    }

    private static LockLevelTypes mixed(int threads) {
        return Programs.sealed(4, threads, "A0 C4 R0 N", "A1 A0 R0 R1", "C4 A2 C5", "A3 N A0", "A1 R1 C5", "A2 R2 N");
    }
}
