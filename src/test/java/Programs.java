/** Programs written as text, and all that can be seen of an object. */
final class Programs {
    /** Numbers around and far outside every range of the document. */
    static final int[] NUMBERS = {
        Integer.MIN_VALUE, Integer.MIN_VALUE + 1, -65536, -9, -8, -2, -1, 0, 1, 2, 3, 4, 5, 6, 7, 8, 9,
        16, 31, 32, 63, 64, 255, 256, 65536, Integer.MAX_VALUE - 1, Integer.MAX_VALUE
    };

    private Programs() {
    }

    /** Procedure p of a new object gets procs[p]: words such as A0 (acquire), R0, C3 (call) and N. */
    static LockLevelTypes make(int locks, int threads, String... procs) {
        LockLevelTypes x = new LockLevelTypes(locks, threads);
        for (int p = 0; p < procs.length; p++) {
            load(x, p, procs[p]);
        }
        return x;
    }

    static LockLevelTypes sealed(int locks, int threads, String... procs) {
        LockLevelTypes x = make(locks, threads, procs);
        x.check();
        return x;
    }

    static void load(LockLevelTypes x, int proc, String text) {
        for (String word : text.trim().split("\\s+")) {
            if (!word.isEmpty()) {
                int op = "NARC".indexOf(word.charAt(0));
                int arg = word.length() > 1 ? Integer.parseInt(word.substring(1)) : 0;
                if (x.emit(proc, op, arg) < 0) {
                    throw new IllegalStateException("emit refused " + word + " in procedure " + proc);
                }
            }
        }
    }

    /**
     * Procedure 5 runs 511 instructions alone, and uses the procedures 6 and 7: with a few more in
     * front of a call of it, a solo run comes to the limit or past it.
     */
    static void loadLong(LockLevelTypes x) {
        load(x, 7, "N N N N N N N N");
        load(x, 6, "C7 C7 C7 C7 C7 C7 C7 C7");
        load(x, 5, "C6 C6 C6 C6 C6 C6 C6");
    }

    /** As make, with the procedures of loadLong behind it. */
    static LockLevelTypes makeLong(int locks, int threads, String... procs) {
        LockLevelTypes x = make(locks, threads, procs);
        loadLong(x);
        return x;
    }

    /** Steps the threads that the digits name, one by one; the answers are the digits given back. */
    static String steps(LockLevelTypes x, String threads) {
        StringBuilder answers = new StringBuilder();
        for (char c : threads.toCharArray()) {
            answers.append(x.step(c - '0'));
        }
        return answers.toString();
    }

    /** The holder of a lock and its count, as in 0x2. */
    static String held(LockLevelTypes x, int lock) {
        return x.holder(lock) + "x" + x.holdCount(lock);
    }

    /** The top frame of a thread, as in 7:0. */
    static String frame(LockLevelTypes x, int thread) {
        return x.frameProc(thread) + ":" + x.framePc(thread);
    }

    /** The machine: holder and count of every lock, top frame and wait of every thread. */
    static String machine(LockLevelTypes x) {
        StringBuilder s = new StringBuilder();
        for (int i = -1; i <= 8; i++) {
            s.append(held(x, i)).append(' ');
        }
        for (int i = -1; i <= 4; i++) {
            s.append(frame(x, i)).append('>').append(x.waitsFor(i)).append(' ');
        }
        return s.append(x.deadlocked()).toString();
    }

    /** The order graph, as a row of words such as 0->1. */
    static String edges(LockLevelTypes x) {
        StringBuilder s = new StringBuilder();
        for (int a = -1; a <= 8; a++) {
            for (int b = -1; b <= 8; b++) {
                if (x.order(a, b)) {
                    s.append(a).append("->").append(b).append(' ');
                }
            }
        }
        return s.toString();
    }

    /** What check found out: edges, levels, lowest lock on a cycle, solo lengths. */
    static String findings(LockLevelTypes x) {
        StringBuilder s = new StringBuilder(edges(x)).append("levels");
        for (int i = -1; i <= 8; i++) {
            s.append(' ').append(x.level(i));
        }
        s.append(" cycle ").append(x.cycleLock()).append(" solo");
        for (int i = -1; i <= 4; i++) {
            s.append(' ').append(x.soloLength(i));
        }
        return s.toString();
    }

    static String all(LockLevelTypes x) {
        return machine(x) + " | " + findings(x);
    }
}
