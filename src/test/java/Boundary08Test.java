/** The boundary cases of promise 8, order, a test for each sentence. */
public final class Boundary08Test {
    public static void main(String[] args) {
        Sentences.run(Boundary08Test::list);
    }

    static void list(Sentences s) {
        s.says("`order(a, b)` answers true iff the object is sealed", Boundary08Test::notSealed);
        s.says("`a` and `b` are both in 0..lockCount-1", Boundary08Test::outOfRange);
        s.says("and a->b is an edge of the order graph", Boundary08Test::edgesOnly);
        s.says("It is always false under `REJECT_LONG`", Boundary08Test::falseUnderLong);
        s.says("It changes nothing", Boundary08Test::changesNothing);
    }

    private static void notSealed(Due due) {
        States.answersAlways(due, States.notSealed(), Boundary08Test::pairsWith, 0);
        LockLevelTypes x = Programs.make(2, 1, "A0 A1");
        due.no("order(0, 1) before check", x.order(0, 1));
        x.check();
        due.yes("order(0, 1) after check", x.order(0, 1));
    }

    private static void outOfRange(Due due) {
        for (int locks = 2; locks <= 8; locks++) {
            LockLevelTypes up = new LockLevelTypes(locks, 1);
            LockLevelTypes down = new LockLevelTypes(locks, 1);
            for (int lock = 0; lock < locks; lock++) {
                up.emit(0, LockLevelTypes.OP_ACQ, lock);
                down.emit(0, LockLevelTypes.OP_ACQ, locks - 1 - lock);
            }
            up.check();
            down.check();
            for (int a = -70; a <= 70; a++) {
                for (int b = -70; b <= 70; b++) {
                    boolean inside = a >= 0 && b >= 0 && a < locks && b < locks;
                    pair(due, "up of " + locks, up, a, b, inside && a < b);
                    pair(due, "down of " + locks, down, a, b, inside && a > b);
                }
            }
            for (int n : Programs.NUMBERS) {
                pair(due, "up of " + locks, up, 0, n, n > 0 && n < locks);
                pair(due, "down of " + locks, down, n, 0, n > 0 && n < locks);
            }
        }
    }

    private static void pair(Due due, String what, LockLevelTypes x, int a, int b, boolean want) {
        due.same("order(" + a + ", " + b + ") " + what, x.order(a, b) ? 1 : 0, want ? 1 : 0);
    }

    private static void edgesOnly(Due due) {
        edges(due, "a path of two edges is none", "0->1 1->2 ", Programs.sealed(3, 1, "A0 A1 R0 A2"));
        edges(due, "one way", "1->0 ", Programs.sealed(2, 1, "A1 A0"));
        edges(due, "both ways, under a cycle", "0->1 1->0 ", Programs.sealed(2, 2, "A0 A1", "A1 A0"));
        edges(due, "no lock leads to itself", "", Programs.sealed(2, 1, "A0 A0 R0 R0 A0"));
        edges(due, "nothing at all", "", Programs.sealed(8, 4, ""));
        edges(due, "first and last lock", "0->7 7->0 ", Programs.sealed(8, 2, "A0 A7", "A7 A0"));
    }

    private static void edges(Due due, String what, String want, LockLevelTypes x) {
        due.same(what, Programs.edges(x), want);
    }

    private static void falseUnderLong(Due due) {
        String[][] programs = {{"A0 A1 C5", "A1 A0"}, {"A1 A0", "A0 A1 C5"}, {"C5 A0 A1", ""}, {"C5 N", "A0 A1 R0 A0"}};
        for (String[] procs : programs) {
            LockLevelTypes x = Programs.makeLong(2, 2, procs);
            due.same("check", x.check(), LockLevelTypes.REJECT_LONG);
            x.run(0x44444444, 1024);
            edges(due, "edges of " + String.join(" | ", procs), "", x);
        }
        LockLevelTypes fits = Programs.makeLong(2, 2, "C5", "A0 A1");
        fits.check();
        edges(due, "edges beside the longest run that fits", "0->1 ", fits);
    }

    private static void changesNothing(Due due) {
        States.askingChangesNothing(due, Boundary08Test::pairsWith);
    }

    /** How many pairs with that number, first or second, are answered with true. */
    private static int pairsWith(LockLevelTypes x, int n) {
        int pairs = 0;
        for (int m : Programs.NUMBERS) {
            pairs += (x.order(n, m) ? 1 : 0) + (x.order(m, n) ? 1 : 0);
        }
        return pairs;
    }
}
