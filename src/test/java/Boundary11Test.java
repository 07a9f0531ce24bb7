/** The boundary cases of promise 11, soloLength, a test for each sentence. */
public final class Boundary11Test {
    public static void main(String[] args) {
        Sentences.run(Boundary11Test::list);
    }

    static void list(Sentences s) {
        s.says("when sealed and `thread` is in 0..threadCount-1", Boundary11Test::firstAndLastThread);
        s.says("the number of instructions executed by that thread's solo run", Boundary11Test::countsInstructions);
        s.says("0 when the thread is done as soon as it starts", Boundary11Test::doneAtTheStart);
        s.says("513 when 513 instructions executed, whether or not the thread was done at that point", Boundary11Test::at513);
        s.says("(0..513", Boundary11Test::nearTheLimit);
        s.says("Otherwise it answers -1", Boundary11Test::beforeSealing);
        s.says("Otherwise it answers -1", Boundary11Test::outOfRange);
        s.says("It changes nothing", due -> States.askingChangesNothing(due, LockLevelTypes::soloLength));
        s.says("machine steps do not affect it", Boundary11Test::stepsDoNotAffectIt);
    }

    private static void firstAndLastThread(Due due) {
        for (int threads = 1; threads <= 4; threads++) {
            LockLevelTypes x = Programs.sealed(2, threads, "N", "N N", "N N N", "N N N N");
            due.same("soloLength(0) of " + threads, x.soloLength(0), 1);
            due.same("soloLength of the last of " + threads, x.soloLength(threads - 1), threads);
        }
    }

    private static void countsInstructions(Due due) {
        LockLevelTypes x = Programs.sealed(2, 4, "A0 A0 R0 R1 N", "C4 C4", "C5 C4 C5", "C7", "A0 A1", "C6", "N", "");
        due.same("each opcode counts", x.soloLength(0), 5);
        due.same("calls count, and what is called", x.soloLength(1), 6);
        due.same("calls of calls", x.soloLength(2), 9);
        due.same("a call of an empty procedure", x.soloLength(3), 1);
    }

    private static void doneAtTheStart(Due due) {
        LockLevelTypes x = Programs.make(2, 4, "N", "", "N", "");
        x.setEntry(2, 7);
        x.check();
        due.same("a thread with one instruction", x.soloLength(0), 1);
        due.same("an empty procedure", x.soloLength(1), 0);
        due.same("an entry set to an empty procedure", x.soloLength(2), 0);
        due.same("the last thread", x.soloLength(3), 0);
    }

    private static int lengthOf(String entry) {
        LockLevelTypes x = Programs.makeLong(2, 1, entry);
        x.check();
        return x.soloLength(0);
    }

    private static void at513(Due due) {
        due.same("done at 513", lengthOf("C5 N"), 513);
        due.same("done at 513, the call last", lengthOf("N C5"), 513);
        due.same("one left at 513", lengthOf("C5 N N"), 513);
        due.same("one left at 513, the call last", lengthOf("N N C5"), 513);
        due.same("thousands left at 513", lengthOf("C5 C5 C5 C5 C5 C5 C5 C5"), 513);
        LockLevelTypes last = Programs.makeLong(2, 4, "", "N", "", "C5 N");
        due.same("check", last.check(), LockLevelTypes.REJECT_LONG);
        due.same("soloLength(3)", last.soloLength(3), 513);
        due.same("soloLength(0) beside it", last.soloLength(0), 0);
        due.same("soloLength(1) beside it", last.soloLength(1), 1);
    }

    private static void nearTheLimit(Due due) {
        due.same("511", lengthOf("C6 C6 C6 C6 C6 C6 C6"), 511);
        due.same("512", lengthOf("C6 C6 C6 C6 C6 C6 C6 N"), 512);
        due.same("512 by one call", lengthOf("C5"), 512);
        due.same("1", lengthOf("N"), 1);
        due.same("0", lengthOf(""), 0);
    }

    private static void beforeSealing(Due due) {
        States.answersAlways(due, States.notSealed(), LockLevelTypes::soloLength, -1);
    }

    private static void outOfRange(Due due) {
        for (int threads = 1; threads <= 4; threads++) {
            LockLevelTypes x = Programs.sealed(2, threads, "N", "N N", "N N N", "N N N N");
            due.same("soloLength(-1) of " + threads, x.soloLength(-1), -1);
            due.same("soloLength past the last of " + threads, x.soloLength(threads), -1);
            for (int thread : Programs.NUMBERS) {
                if (thread < 0 || thread >= threads) {
                    due.same("soloLength(" + thread + ") of " + threads, x.soloLength(thread), -1);
                }
            }
        }
    }

    private static void stepsDoNotAffectIt(Due due) {
        States.sealed().forEach((name, state) -> {
            LockLevelTypes x = state.get();
            String lengths = lengths(x);
            x.step(0);
            x.step(1);
            due.same("after steps, " + name, lengths(x), lengths);
            x.run(0xE4E4E4E4, 1024);
            due.same("after a run, " + name, lengths(x), lengths);
            x.restart();
            due.same("after restart, " + name, lengths(x), lengths);
        });
    }

    private static String lengths(LockLevelTypes x) {
        return x.soloLength(0) + " " + x.soloLength(1) + " " + x.soloLength(2) + " " + x.soloLength(3);
    }
}
