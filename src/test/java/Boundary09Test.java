/** The boundary cases of promise 9, level, a test for each sentence. */
public final class Boundary09Test {
    public static void main(String[] args) {
        Sentences.run(Boundary09Test::list);
    }

    static void list(Sentences s) {
        s.says("the number of edges of the longest path in the order graph ending at `lock`", Boundary09Test::longestPath);
        s.says("0 if it has no incoming edge", Boundary09Test::noIncomingEdge);
        s.says("when the verdict is `ACCEPT`", Boundary09Test::onlyUnderAccept);
        s.says("and `lock` is in 0..lockCount-1", Boundary09Test::firstAndLastLock);
        s.says("Otherwise it answers -1", Boundary09Test::outOfRange);
        s.says("also before sealing", Boundary09Test::beforeSealing);
        s.says("When the verdict is `ACCEPT`, every pair a, b with `order(a, b)` true has `level(a) < level(b)`",
            Boundary09Test::levelsRise);
        s.says("It changes nothing", due -> States.askingChangesNothing(due, LockLevelTypes::level));
    }

    private static void levels(Due due, String what, LockLevelTypes x, int... want) {
        due.same("check of " + what, x.check(), LockLevelTypes.ACCEPT);
        for (int lock = 0; lock < want.length; lock++) {
            due.same("level(" + lock + ") of " + what, x.level(lock), want[lock]);
        }
    }

    private static void longestPath(Due due) {
        levels(due, "the longest path, upward", Programs.make(8, 1, "A0 A1 A2 A3 A4 A5 A6 A7"), 0, 1, 2, 3, 4, 5, 6, 7);
        levels(due, "the longest path, downward", Programs.make(8, 1, "A7 A6 A5 A4 A3 A2 A1 A0"), 7, 6, 5, 4, 3, 2, 1, 0);
        levels(due, "a bare chain", Programs.make(8, 1, "A7 A3 R7 A5 R3 C1", "A0 R5 A6 R0 A1 R6 C2", "A4 R1 A2"),
            3, 5, 7, 1, 6, 2, 4, 0);
        levels(due, "a short way found last", Programs.make(4, 2, "A0 A1 R0 A2 R1 A3", "A0 A3"), 0, 1, 2, 3);
        levels(due, "a short way found first", Programs.make(4, 2, "A0 A3", "A0 A1 R0 A2 R1 A3"), 0, 1, 2, 3);
        levels(due, "one edge", Programs.make(2, 1, "A1 A0"), 1, 0);
    }

    private static void noIncomingEdge(Due due) {
        levels(due, "nothing", new LockLevelTypes(2, 1), 0, 0);
        levels(due, "nothing, largest", new LockLevelTypes(8, 4), 0, 0, 0, 0, 0, 0, 0, 0);
        levels(due, "locks taken one at a time", Programs.make(4, 1, "A3 R3 A2 R2 A1 R1 A0"), 0, 0, 0, 0);
        levels(due, "three roots of one lock", Programs.make(4, 3, "A0 A3", "A1 A3", "A2 A3"), 0, 0, 0, 1);
        levels(due, "a lock that only leads on", Programs.make(4, 1, "A2 A0 R0 A1 R1 A3"), 1, 1, 0, 1);
    }

    private static void onlyUnderAccept(Due due) {
        LockLevelTypes cyclic = Programs.make(4, 2, "A0 A1 R0 A0", "A2 A3");
        LockLevelTypes tooLong = Programs.makeLong(4, 2, "C5 N", "A2 A3");
        due.same("check of a cycle", cyclic.check(), LockLevelTypes.REJECT_CYCLE);
        due.same("check of a long run", tooLong.check(), LockLevelTypes.REJECT_LONG);
        for (int lock = 0; lock < 4; lock++) {
            due.same("level(" + lock + ") under a cycle", cyclic.level(lock), -1);
            due.same("level(" + lock + ") under a long run", tooLong.level(lock), -1);
        }
        levels(due, "the longest run that fits", Programs.makeLong(4, 2, "C5", "A2 A3"), 0, 0, 0, 1);
    }

    /** Each lock leads to the one below it: the levels differ, so that a wrong one shows. */
    private static LockLevelTypes falling(int locks) {
        LockLevelTypes x = new LockLevelTypes(locks, 1);
        for (int lock = locks - 1; lock >= 0; lock--) {
            x.emit(0, LockLevelTypes.OP_ACQ, lock);
        }
        return x;
    }

    private static void firstAndLastLock(Due due) {
        for (int locks = 2; locks <= 8; locks++) {
            LockLevelTypes x = falling(locks);
            x.check();
            due.same("level of the first of " + locks, x.level(0), locks - 1);
            due.same("level of the last of " + locks, x.level(locks - 1), 0);
        }
    }

    private static void outOfRange(Due due) {
        for (int locks = 2; locks <= 8; locks++) {
            LockLevelTypes x = falling(locks);
            x.check();
            due.same("level(-1) of " + locks, x.level(-1), -1);
            due.same("level past the last of " + locks, x.level(locks), -1);
            for (int lock : Programs.NUMBERS) {
                if (lock < 0 || lock >= locks) {
                    due.same("level(" + lock + ") of " + locks, x.level(lock), -1);
                }
            }
        }
    }

    private static void beforeSealing(Due due) {
        States.answersAlways(due, States.notSealed(), LockLevelTypes::level, -1);
    }

    private static void levelsRise(Due due) {
        int edges = 0;
        LockLevelTypes[] objects = {
            falling(8), Programs.make(8, 4, "A3 A7 A0", "A7 A5 R7 A1", "A0 A5 R0 A6", "A6 A2 R6 A4"),
            Programs.make(8, 4, "A4 A0 A6 R4 A2", "A2 A7 R2 A1", "A6 A5 R6 A7", "A1 A3 R1 R3 A5 A7")
        };
        for (LockLevelTypes x : objects) {
            due.same("check", x.check(), LockLevelTypes.ACCEPT);
            for (int pair = 0; pair < 64; pair++) {
                if (x.order(pair / 8, pair % 8)) {
                    edges++;
                    due.yes("level(" + pair / 8 + ") < level(" + pair % 8 + ")", x.level(pair / 8) < x.level(pair % 8));
                }
            }
        }
        due.yes("edges to look at", edges > 40);
    }
}
