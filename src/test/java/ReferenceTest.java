/** Many made-up programs and schedules, each call answered by the class and by Reference alike. */
public final class ReferenceTest {
    private static long seed = 20261115;

    private static int below(int bound) {
        seed = seed * 6364136223846793005L + 1442695040888963407L;
        return (int) ((seed >>> 33) % bound);
    }

    private static int anyInt() {
        return below(1 << 16) << 16 ^ below(1 << 16);
    }

    private static int oddNumber() {
        return Programs.NUMBERS[below(Programs.NUMBERS.length)];
    }

    public static void main(String[] args) {
        Due due = new Due();
        int[] verdicts = new int[3];
        int deadlocks = 0;
        for (int round = 0; round < 6000 && due.wrong() < 20; round++) {
            int locks = below(12) - 1;
            int threads = below(7) - 1;
            LockLevelTypes x = new LockLevelTypes(locks, threads);
            Reference r = new Reference(locks, threads);
            String name = "round " + round + " ";
            write(due, name, x, r);
            int verdict = r.check();
            due.same(name + "check", x.check(), verdict);
            due.same(name + "findings", Programs.findings(x), r.findings());
            due.same(name + "machine at the start", Programs.machine(x), r.machine());
            verdicts[verdict]++;
            deadlocks += schedule(due, name, x, r) ? 1 : 0;
            due.same(name + "findings at the end", Programs.findings(x), r.findings());
        }
        for (int v = 0; v < 3; v++) {
            due.yes("enough rounds with verdict " + v, verdicts[v] > 100);
        }
        due.yes("enough rounds with a deadlock", deadlocks > 100);
        due.end();
    }

    private static void write(Due due, String name, LockLevelTypes x, Reference r) {
        int style = below(4);
        int count = 8 + below(40);
        for (int i = 0; i < count; i++) {
            int proc = style == 0 ? i % 8 : below(8);
            int op = style == 0 && below(2) == 0 ? 3 : 1 + below(3);
            int arg = op == 3 ? Math.min(7, proc + 1 + below(2)) : below(r.locks);
            if (op == 2 && below(3) == 0) op = 0;
            if (below(12) == 0) proc = oddNumber();
            if (below(12) == 0) op = oddNumber();
            if (below(12) == 0) arg = oddNumber();
            due.same(name + "emit " + proc + " " + op + " " + arg, x.emit(proc, op, arg), r.emit(proc, op, arg));
        }
        for (int i = below(6); i > 0; i--) {
            int thread = below(3) == 0 ? oddNumber() : below(4);
            int proc = below(3) == 0 ? oddNumber() : below(8);
            due.same(name + "setEntry " + thread + " " + proc,
                x.setEntry(thread, proc) ? 1 : 0, r.setEntry(thread, proc) ? 1 : 0);
        }
    }

    private static boolean schedule(Due due, String name, LockLevelTypes x, Reference r) {
        boolean stuck = false;
        for (int i = 0; i < 40; i++) {
            int kind = below(40);
            if (kind == 0) {
                due.same(name + "restart", x.restart() ? 1 : 0, r.restart() ? 1 : 0);
            } else if (kind == 1) {
                due.same(name + "check again", x.check(), r.check());
            } else if (kind == 2) {
                due.same(name + "emit late", x.emit(below(8), 0, 0), -1);
                due.no(name + "setEntry late", x.setEntry(0, below(8)));
            } else if (kind < 6) {
                int script = anyInt();
                int steps = kind == 3 ? oddNumber() : below(40);
                due.same(name + "run " + script + " " + steps, x.run(script, steps), r.run(script, steps));
            } else {
                int thread = kind == 6 ? oddNumber() : below(r.threads);
                due.same(name + "step " + thread, x.step(thread), r.step(thread));
            }
            due.same(name + "machine after call " + i, Programs.machine(x), r.machine());
            stuck |= r.deadlocked();
        }
        return stuck;
    }
}
