/** Promise 8: order. */
public final class Promise08Test {
    private static final Due due = new Due();

    public static void main(String[] args) {
        edgesOnly();
        everyPair();
        outOfRange();
        emptyUnderLong();
        changesNothing();
        due.end();
    }

    private static void edges(String what, LockLevelTypes x, String want) {
        due.same(what, Programs.edges(x), want);
    }

    private static void edgesOnly() {
        edges("direct edges, not paths", Programs.sealed(4, 1, "A0 A1 R0 A2 R1 A3"), "0->1 1->2 2->3 ");
        edges("every lock held counts", Programs.sealed(4, 1, "A0 A1 A2 A3"), "0->1 0->2 0->3 1->2 1->3 2->3 ");
        edges("reentrant takes add none", Programs.sealed(4, 1, "A2 A1 A2 A1 A2"), "2->1 ");
        edges("released locks add none", Programs.sealed(4, 1, "A2 R2 A1 R1 A3"), "");
        edges("release of what is not held", Programs.sealed(4, 1, "A2 R1 A1 R3 A3"), "1->3 2->1 2->3 ");
        edges("half released", Programs.sealed(4, 1, "A2 A2 R2 A1"), "2->1 ");
        edges("all threads together", Programs.sealed(4, 3, "A0 A1", "A2 A3", "A3 A1"), "0->1 2->3 3->1 ");
        edges("calls count", Programs.sealed(4, 1, "A0 C3 A2", "", "", "A1 C5", "", "A3 R1"), "0->1 0->2 0->3 1->3 3->2 ");
        edges("under a cycle", Programs.sealed(3, 2, "A0 A1 R1 R0", "A1 A0"), "0->1 1->0 ");
        edges("what no thread runs", Programs.sealed(3, 1, "A0", "A0 A1"), "");
        edges("nothing", Programs.sealed(8, 4, "A0"), "");
        edges("a second way to the same edge", Programs.sealed(3, 2, "A0 A1", "A0 A1"), "0->1 ");
    }

    private static void everyPair() {
        for (int a = 0; a < 8; a++) {
            for (int b = 0; b < 8; b++) {
                LockLevelTypes x = Programs.sealed(8, 1, "A" + a + " A" + b);
                edges("A" + a + " A" + b, x, a == b ? "" : a + "->" + b + " ");
            }
        }
    }

    private static void outOfRange() {
        for (int locks = 2; locks <= 8; locks++) {
            LockLevelTypes x = new LockLevelTypes(locks, 1);
            for (int lock = 0; lock < locks; lock++) {
                x.emit(0, LockLevelTypes.OP_ACQ, lock);
            }
            due.no("order(0, 1) before check", x.order(0, 1));
            x.check();
            for (int a : Programs.NUMBERS) {
                for (int b : Programs.NUMBERS) {
                    boolean want = a >= 0 && b < locks && a < b;
                    due.same("order(" + a + ", " + b + ") of " + locks, x.order(a, b) ? 1 : 0, want ? 1 : 0);
                }
            }
        }
        // A cell one past a row must not be read as the next row's.
        LockLevelTypes reverse = Programs.sealed(8, 1, "A7 A6 A5 A4 A3 A2 A1 A0");
        for (int a = -2; a < 10; a++) {
            for (int b = -20; b < 20; b++) {
                boolean want = a < 8 && b >= 0 && a > b;
                due.same("reverse order(" + a + ", " + b + ")", reverse.order(a, b) ? 1 : 0, want ? 1 : 0);
            }
        }
    }

    private static void emptyUnderLong() {
        for (String first : new String[] {"A0 A1 C5", "N A0 A1 C5", "N C5"}) {
            LockLevelTypes x = Programs.make(4, 2, first, "A2 A3 R2 A2");
            Programs.loadLong(x);
            due.same("verdict of " + first, x.check(), LockLevelTypes.REJECT_LONG);
            edges("edges of " + first, x, "");
        }
        LockLevelTypes fits = Programs.make(4, 2, "C5", "A2 A3 R2 A2");
        Programs.loadLong(fits);
        fits.check();
        edges("edges beside a run of 512", fits, "2->3 3->2 ");
    }

    private static void changesNothing() {
        LockLevelTypes x = Programs.sealed(3, 2, "A0 A1 N", "A1 A2 N");
        Programs.steps(x, "01");
        String before = Programs.all(x);
        for (int a : Programs.NUMBERS) {
            for (int b : Programs.NUMBERS) {
                x.order(a, b);
            }
        }
        due.same("all after order", Programs.all(x), before);
        x.run(0x11111111, 64);
        x.restart();
        edges("edges after the machine has run", x, "0->1 1->2 ");
    }
}
