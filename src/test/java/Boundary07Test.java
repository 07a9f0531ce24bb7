/** The boundary cases of promise 7, run, a test for each sentence. */
public final class Boundary07Test {
    private static final String EIGHT = "N N N N N N N N";
    private static final int[] SCRIPTS = {
        0, 1, 3, -1, 0x1B1B1B1B, 0xE4E4E4E4, 0x55555555, 0xAAAAAAAA, 0x40000000, 0x80000000, 0xC0000000, 0x7FFFFFFF, 0x12345678
    };

    public static void main(String[] args) {
        Sentences.run(Boundary07Test::list);
    }

    static void list(Sentences s) {
        s.says("`run(script, steps)` is a scripted schedule", Boundary07Test::followsTheScript);
        s.says("When not sealed it answers -1 and changes nothing", Boundary07Test::notSealed);
        s.says("negative values give 0", Boundary07Test::negativeSteps);
        s.says("values above 1024 give 1024", Boundary07Test::tooManySteps);
        s.says("Otherwise `steps` is clamped into 0..1024", Boundary07Test::keptSteps);
        s.says("For i = 0, 1, .., steps-1, in order: field = `(script >>> (2 * (i % 16))) & 3`", Boundary07Test::everyField);
        s.says("t = field % threadCount", Boundary07Test::wrapsThreads);
        s.says("`step(t)` is performed", Boundary07Test::performsTheStep);
        s.says("the script is read as sixteen 2-bit fields from the lowest bits upward", Boundary07Test::lowestFirst);
        s.says("and repeats after every 16 steps", Boundary07Test::repeats);
        s.says("the sign bit of `script` is just the high bit of field 15", Boundary07Test::signBit);
        s.says("the shift is unsigned, so there is no sign extension", Boundary07Test::noSignExtension);
        s.says("The answer is the number of those steps that answered `STEP_OK` (0..the clamped steps value)",
            Boundary07Test::countsOkOnly);
        s.says("The effect on the machine is exactly that of the same `step` calls made one by one", Boundary07Test::sameAsSteps);
    }

    /** Thread 0 can make 4680 steps, more than any script does. */
    private static LockLevelTypes endless() {
        return Programs.sealed(2, 1, "C5 C5 C5 C5 C5 C5 C5 C5", "", "", "", "",
            "C6 C6 C6 C6 C6 C6 C6 C6", "C7 C7 C7 C7 C7 C7 C7 C7", EIGHT);
    }

    private static LockLevelTypes counters(int threads) {
        return Programs.sealed(2, threads, EIGHT, EIGHT, EIGHT, EIGHT);
    }

    private static String pcs(LockLevelTypes x) {
        return x.framePc(0) + " " + x.framePc(1) + " " + x.framePc(2) + " " + x.framePc(3);
    }

    private static void runs(Due due, int script, int steps, int want, String pcs) {
        LockLevelTypes x = counters(4);
        due.same("run(" + script + ", " + steps + ")", x.run(script, steps), want);
        due.same("pcs after run(" + script + ", " + steps + ")", pcs(x), pcs);
    }

    private static void followsTheScript(Due due) {
        runs(due, 0b11_10_01_00, 0, 0, "0 0 0 0");
        runs(due, 0b11_10_01_00, 1, 1, "1 0 0 0");
        runs(due, 0b11_10_01_00, 2, 2, "1 1 0 0");
        runs(due, 0b11_10_01_00, 3, 3, "1 1 1 0");
        runs(due, 0b11_10_01_00, 4, 4, "1 1 1 1");
        runs(due, 0b11_10_01_00, 5, 5, "2 1 1 1");
    }

    private static void notSealed(Due due) {
        States.answersAlways(due, States.notSealed(), (x, steps) -> {
            int others = 0;
            for (int script : SCRIPTS) {
                others += x.run(script, steps) == -1 ? 0 : 1;
            }
            return others;
        }, 0);
    }

    private static int stepsLeft(LockLevelTypes x) {
        int left = 0;
        while (left < 5000 && x.step(0) == LockLevelTypes.STEP_OK) {
            left++;
        }
        return left;
    }

    private static void clamped(Due due, int steps, int want) {
        LockLevelTypes x = endless();
        due.same("run(0, " + steps + ")", x.run(0, steps), want);
        due.same("steps left after run(0, " + steps + ")", stepsLeft(x), 4680 - want);
    }

    private static void negativeSteps(Due due) {
        for (int steps : new int[] {-1, -2, -16, -1024, -1025, -65536, Integer.MIN_VALUE + 1, Integer.MIN_VALUE}) {
            clamped(due, steps, 0);
        }
        States.changesNothing(due, States.sealed(), x -> {
            for (int script : SCRIPTS) {
                due.same("run(" + script + ", -1)", x.run(script, -1), 0);
                due.same("run(" + script + ", MIN_VALUE)", x.run(script, Integer.MIN_VALUE), 0);
            }
        });
    }

    private static void tooManySteps(Due due) {
        for (int steps : new int[] {1025, 1026, 1040, 2048, 65536, 65537, Integer.MAX_VALUE - 1, Integer.MAX_VALUE}) {
            clamped(due, steps, 1024);
        }
    }

    private static void keptSteps(Due due) {
        for (int steps : new int[] {0, 1, 2, 15, 16, 17, 31, 32, 512, 513, 1023, 1024}) {
            clamped(due, steps, steps);
        }
        States.changesNothing(due, States.sealed(), x -> {
            for (int script : SCRIPTS) {
                due.same("run(" + script + ", 0)", x.run(script, 0), 0);
            }
        });
    }

    private static void everyField(Due due) {
        for (int field = 0; field < 16; field++) {
            for (int thread = 1; thread <= 3; thread++) {
                // Every field but one names thread 0, which is done after 8 steps.
                LockLevelTypes x = counters(4);
                x.run(thread << (2 * field), field);
                due.same("framePc(" + thread + ") before field " + field, x.framePc(thread), 0);
                x.restart();
                x.run(thread << (2 * field), field + 1);
                for (int other = 1; other <= 3; other++) {
                    due.same("framePc(" + other + ") after field " + field, x.framePc(other), other == thread ? 1 : 0);
                }
            }
        }
    }

    private static void wrapsThreads(Due due) {
        String[] want = {"4 -1 -1 -1", "2 2 -1 -1", "2 1 1 -1", "1 1 1 1"};
        String[] onlyThree = {"4 -1 -1 -1", "0 4 -1 -1", "4 0 0 -1", "0 0 0 4"};
        String[] onlyTwo = {"4 -1 -1 -1", "4 0 -1 -1", "0 0 4 -1", "0 0 4 0"};
        for (int threads = 1; threads <= 4; threads++) {
            LockLevelTypes x = counters(threads);
            due.same("run of each field with " + threads, x.run(0xE4, 4), 4);
            due.same("each field with " + threads, pcs(x), want[threads - 1]);
            x.restart();
            due.same("run of field 3 with " + threads, x.run(-1, 4), 4);
            due.same("field 3 with " + threads, pcs(x), onlyThree[threads - 1]);
            x.restart();
            due.same("run of field 2 with " + threads, x.run(0xAA, 4), 4);
            due.same("field 2 with " + threads, pcs(x), onlyTwo[threads - 1]);
        }
    }

    private static void performsTheStep(Due due) {
        LockLevelTypes x = Programs.sealed(2, 2, "A0 C2 R0", "A0 N", "A1 R1");
        due.same("run(0, 2)", x.run(0, 2), 2);
        due.same("frame in the call", Programs.frame(x, 0), "2:0");
        due.same("holder(0)", x.holder(0), 0);
        due.same("run of the blocked thread", x.run(0x55555555, 1024), 0);
        due.same("run(0, 1)", x.run(0, 1), 1);
        due.same("holder(1)", x.holder(1), 0);
    }

    private static void lowestFirst(Due due) {
        runs(due, 0b01, 1, 1, "0 1 0 0");
        runs(due, 0b10, 1, 1, "0 0 1 0");
        runs(due, 0b11, 1, 1, "0 0 0 1");
        runs(due, 0b100, 1, 1, "1 0 0 0");
        runs(due, 0b100, 2, 2, "1 1 0 0");
        runs(due, 0x40000000, 7, 7, "7 0 0 0");
        runs(due, 0x40000000, 15, 8, "-1 0 0 0");
        runs(due, 0x40000000, 16, 9, "-1 1 0 0");
    }

    private static void repeats(Due due) {
        runs(due, 0x00000002, 16, 9, "-1 0 1 0");
        runs(due, 0x00000002, 17, 10, "-1 0 2 0");
        runs(due, 0x00000002, 32, 10, "-1 0 2 0");
        runs(due, 0x00000002, 33, 11, "-1 0 3 0");
        runs(due, 0x80000000, 31, 9, "-1 0 1 0");
        runs(due, 0x80000000, 32, 10, "-1 0 2 0");
        runs(due, 0x80000000, 111, 14, "-1 0 6 0");
        runs(due, 0x80000000, 112, 15, "-1 0 7 0");
        // 1024 steps read the script 64 times to its very end.
        LockLevelTypes x = Programs.sealed(2, 2, "", "C5 C5 C5 C5 C5 C5 C5 C5", "", "", "", EIGHT);
        due.same("run to the last field of the last of 64 readings", x.run(0x40000000, 1023), 63);
        x.restart();
        due.same("run to the last field of the last of 64 readings", x.run(0x40000000, 1024), 64);
    }

    private static void signBit(Due due) {
        runs(due, Integer.MIN_VALUE, 15, 8, "-1 0 0 0");
        runs(due, Integer.MIN_VALUE, 16, 9, "-1 0 1 0");
        runs(due, 0xC0000000, 16, 9, "-1 0 0 1");
        runs(due, 0x40000000, 16, 9, "-1 1 0 0");
    }

    private static void noSignExtension(Due due) {
        runs(due, Integer.MIN_VALUE, 17, 9, "-1 0 1 0");
        runs(due, 0x80000000, 24, 9, "-1 0 1 0");
        runs(due, -4, 1, 1, "1 0 0 0");
        runs(due, -4, 17, 10, "2 0 0 -1");
        runs(due, 0xBFFFFFFF, 8, 8, "0 0 0 -1");
        runs(due, 0xBFFFFFFF, 16, 9, "0 0 1 -1");
    }

    private static void countsOkOnly(Due due) {
        LockLevelTypes empty = Programs.sealed(2, 4, "", "", "", "");
        due.same("all done from the start", empty.run(0xE4E4E4E4, 1024), 0);
        LockLevelTypes blocked = Programs.sealed(2, 2, "A0 N R0", "A0");
        due.same("one takes the lock, the other is blocked", blocked.run(0x55555554, 16), 1);
        due.same("all blocked", blocked.run(-1, 1024), 0);
        due.same("to the end of thread 0", blocked.run(0, 1024), 2);
        due.same("free at last", blocked.run(-1, 1024), 1);
        LockLevelTypes deadlock = Programs.sealed(2, 2, "A0 A1", "A1 A0");
        due.same("into a deadlock", deadlock.run(0x44444444, 1024), 2);
        due.same("within a deadlock", deadlock.run(0x44444444, 1024), 0);
        due.same("every step OK, the most steps", endless().run(0xE4E4E4E4, Integer.MAX_VALUE), 1024);
    }

    private static void sameAsSteps(Due due) {
        for (int threads = 1; threads <= 4; threads++) {
            for (int script : SCRIPTS) {
                for (int steps : new int[] {0, 1, 15, 16, 17, 40}) {
                    LockLevelTypes x = mixed(threads);
                    LockLevelTypes single = mixed(threads);
                    int want = 0;
                    for (int i = 0; i < steps; i++) {
                        long unsigned = script & 0xFFFFFFFFL;
                        int field = (int) (unsigned / (1L << (2 * (i % 16))) % 4);
                        want += single.step(field % threads) == LockLevelTypes.STEP_OK ? 1 : 0;
                    }
                    String call = "run(" + script + ", " + steps + ") of " + threads;
                    due.same(call, x.run(script, steps), want);
                    due.same("all after " + call, Programs.all(x), Programs.all(single));
                    String rest = "0123".repeat(12);
                    due.same("steps after " + call, Programs.steps(x, rest), Programs.steps(single, rest));
                }
            }
        }
    }

    private static LockLevelTypes mixed(int threads) {
        return Programs.sealed(4, threads, "A0 C4 R0 N", "A1 A0 R0 R1", "C4 A2 C5", "A3 N A0", "A1 R1 C5", "A2 R2 N");
    }
}
