/** Promise 9: level. */
public final class Promise09Test {
    private static final Due due = new Due();

    public static void main(String[] args) {
        longestPaths();
        chains();
        outOfRange();
        onlyUnderAccept();
        edgesRise();
        changesNothing();
        due.end();
    }

    private static void levels(String what, LockLevelTypes x, int... want) {
        due.same("check of " + what, x.check(), LockLevelTypes.ACCEPT);
        for (int lock = 0; lock < want.length; lock++) {
            due.same("level(" + lock + ") of " + what, x.level(lock), want[lock]);
        }
    }

    private static void longestPaths() {
        levels("nothing", Programs.make(8, 4, ""), 0, 0, 0, 0, 0, 0, 0, 0);
        levels("lone takes", Programs.make(3, 2, "A0 R0 A1 R1", "A2"), 0, 0, 0);
        levels("one edge", Programs.make(2, 1, "A0 A1"), 0, 1);
        levels("one edge back", Programs.make(2, 1, "A1 A0"), 1, 0);
        levels("short and long way", Programs.make(3, 1, "A0 A1 A2"), 0, 1, 2);
        levels("long way over a high lock", Programs.make(4, 2, "A0 A1 R1 A3 R0 A1", ""), 0, 2, 0, 1);
        levels("two roots", Programs.make(5, 2, "A4 A3 R4 A0", "A2 A0"), 2, 0, 0, 1, 0);
        levels("diamond", Programs.make(4, 2, "A3 A1 R3 A0", "A3 A2 R3 A0"), 2, 1, 1, 0);
        levels("long and short side", Programs.make(5, 2, "A4 A3 R4 A2 R3 A0", "A4 A1 R4 A0"), 3, 1, 2, 1, 0);
        levels("over three threads", Programs.make(4, 3, "A1 A0", "A2 A1", "A3 A2"), 3, 2, 1, 0);
        levels("a part that no other touches", Programs.make(6, 2, "A5 A4", "A1 A0 R1"), 1, 0, 0, 0, 1, 0);
    }

    /** Each lock is released once the next is held, so that the edges make one bare chain. */
    private static void chains() {
        int[][] ways = {
            {0, 1, 2, 3, 4, 5, 6, 7}, {7, 6, 5, 4, 3, 2, 1, 0}, {3, 7, 0, 5, 1, 6, 2, 4}, {4, 2, 6, 1, 5, 0, 7, 3},
            {7, 0, 6, 1, 5, 2, 4, 3}
        };
        for (int[] way : ways) {
            LockLevelTypes x = new LockLevelTypes(8, 1);
            Programs.load(x, 0, "A" + way[0] + " C1 C2 C3 C4");
            for (int i = 1; i < 8; i++) {
                Programs.load(x, (i + 1) / 2, "A" + way[i] + " R" + way[i - 1]);
            }
            x.check();
            for (int i = 0; i < 8; i++) {
                due.same("level(" + way[i] + ") at place " + i, x.level(way[i]), i);
            }
        }
    }

    private static void outOfRange() {
        for (int locks = 2; locks <= 8; locks++) {
            LockLevelTypes x = new LockLevelTypes(locks, 1);
            for (int lock = locks - 1; lock >= 0; lock--) {
                x.emit(0, LockLevelTypes.OP_ACQ, lock);
            }
            for (int lock : Programs.NUMBERS) {
                due.same("level(" + lock + ") before check", x.level(lock), -1);
            }
            x.check();
            for (int lock : Programs.NUMBERS) {
                boolean inside = lock >= 0 && lock < locks;
                due.same("level(" + lock + ") of " + locks, x.level(lock), inside ? locks - 1 - lock : -1);
            }
        }
    }

    private static void onlyUnderAccept() {
        LockLevelTypes cyclic = Programs.sealed(4, 2, "A0 A1 R0 A0", "A2 A3");
        LockLevelTypes tooLong = Programs.make(4, 2, "N C5", "A2 A3");
        Programs.loadLong(tooLong);
        tooLong.check();
        for (int lock : Programs.NUMBERS) {
            due.same("level(" + lock + ") under a cycle", cyclic.level(lock), -1);
            due.same("level(" + lock + ") under a long run", tooLong.level(lock), -1);
        }
    }

    private static void edgesRise() {
        LockLevelTypes x = Programs.sealed(8, 4, "A6 A3 R6 A1 C4", "A7 A6 A5 R7 A0", "A2 A5 R2 C4", "A4 A2 R4 A3", "A0 R0");
        due.same("check", x.check(), LockLevelTypes.ACCEPT);
        int edges = 0;
        for (int a = 0; a < 8; a++) {
            for (int b = 0; b < 8; b++) {
                if (x.order(a, b)) {
                    edges++;
                    due.yes("level(" + a + ") < level(" + b + ")", x.level(a) < x.level(b));
                }
            }
        }
        due.yes("edges to look at", edges > 10);
    }

    private static void changesNothing() {
        LockLevelTypes x = Programs.sealed(3, 2, "A0 A1 N", "A1 A2 N");
        Programs.steps(x, "0011");
        String before = Programs.all(x);
        for (int lock : Programs.NUMBERS) {
            x.level(lock);
        }
        due.same("all after level", Programs.all(x), before);
        x.run(0x11111111, 64);
        x.restart();
        due.same("level(2) after the machine has run", x.level(2), 2);
    }
}
