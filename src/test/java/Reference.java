import java.util.ArrayList;
import java.util.List;

/**
 * A second telling of the document, made another way: calls are unrolled into one list of
 * instructions for each thread, so that a thread is no more than a place in its list.
 */
final class Reference {
    final int locks;
    final int threads;
    private final List<List<int[]>> procs = new ArrayList<>();
    private final int[] entry = {0, 1, 2, 3};
    private boolean sealed = false;
    private final List<List<int[]>> unrolled = new ArrayList<>();
    private final int[] place = new int[4];
    private final int[][] held = new int[4][8];
    private final boolean[][] edge = new boolean[8][8];
    private int verdict = -1;

    Reference(int locks, int threads) {
        this.locks = Math.max(2, Math.min(8, locks));
        this.threads = Math.max(1, Math.min(4, threads));
        for (int p = 0; p < 8; p++) {
            procs.add(new ArrayList<>());
        }
    }

    int emit(int proc, int op, int arg) {
        if (sealed) return -1;
        if (proc < 0 || proc > 7) return -2;
        if (op < 0 || op > 3) return -3;
        if ((op == 1 || op == 2) && (arg < 0 || arg >= locks)) return -4;
        if (op == 3 && (arg <= proc || arg > 7)) return -4;
        int total = procs.stream().mapToInt(List::size).sum();
        if (procs.get(proc).size() == 8 || total == 32) return -5;
        procs.get(proc).add(new int[] {proc, procs.get(proc).size(), op, arg});
        return procs.get(proc).size() - 1;
    }

    boolean setEntry(int thread, int proc) {
        if (sealed || thread < 0 || thread >= threads || proc < 0 || proc > 7) return false;
        entry[thread] = proc;
        return true;
    }

    int check() {
        if (sealed) return verdict;
        sealed = true;
        boolean tooLong = false;
        for (int t = 0; t < threads; t++) {
            List<int[]> list = new ArrayList<>();
            unroll(entry[t], list);
            unrolled.add(list);
            tooLong |= list.size() >= 513;
        }
        if (tooLong) {
            verdict = 2;
        } else {
            unrolled.forEach(this::addEdges);
            verdict = cycleThrough() >= 0 ? 1 : 0;
        }
        restart();
        return verdict;
    }

    private void unroll(int proc, List<int[]> list) {
        for (int[] instruction : procs.get(proc)) {
            list.add(instruction);
            if (instruction[2] == 3) unroll(instruction[3], list);
        }
    }

    private void addEdges(List<int[]> list) {
        int[] mine = new int[8];
        for (int[] instruction : list) {
            int lock = instruction[3];
            if (instruction[2] == 1 && mine[lock] == 0) {
                for (int a = 0; a < locks; a++) edge[a][lock] |= mine[a] > 0;
            }
            apply(mine, instruction);
        }
    }

    private static void apply(int[] mine, int[] instruction) {
        int lock = instruction[3];
        if (instruction[2] == 1) mine[lock]++;
        if (instruction[2] == 2 && mine[lock] > 0) mine[lock]--;
    }

    private int cycleThrough() {
        for (int l = 0; l < locks; l++) {
            if (leads(l, l, 0)) return l;
        }
        return -1;
    }

    private boolean leads(int from, int to, int seen) {
        for (int b = 0; b < locks; b++) {
            if (!edge[from][b]) continue;
            if (b == to) return true;
            if ((seen >> b & 1) == 0 && leads(b, to, seen | 1 << b)) return true;
        }
        return false;
    }

    private int longestTo(int lock) {
        int best = 0;
        for (int a = 0; a < locks; a++) {
            if (edge[a][lock]) best = Math.max(best, 1 + longestTo(a));
        }
        return best;
    }

    boolean restart() {
        if (!sealed) return false;
        for (int t = 0; t < 4; t++) {
            place[t] = 0;
            held[t] = new int[8];
        }
        return true;
    }

    private int[] current(int thread) {
        if (!sealed || thread < 0 || thread >= threads) return null;
        List<int[]> list = unrolled.get(thread);
        return place[thread] < list.size() ? list.get(place[thread]) : null;
    }

    int step(int thread) {
        if (!sealed || thread < 0 || thread >= threads) return 3;
        if (current(thread) == null) return 2;
        if (waitsFor(thread) >= 0) return 1;
        apply(held[thread], current(thread));
        place[thread]++;
        return 0;
    }

    int run(int script, int steps) {
        if (!sealed) return -1;
        int done = 0;
        String fields = String.format("%32s", Integer.toBinaryString(script)).replace(' ', '0');
        for (int i = 0; i < Math.min(steps, 1024); i++) {
            int low = 32 - 2 * (i % 16);
            int field = Integer.parseInt(fields.substring(low - 2, low), 2);
            if (step(field % threads) == 0) done++;
        }
        return done;
    }

    int holder(int lock) {
        for (int t = 0; t < 4 && lock >= 0 && lock < 8; t++) {
            if (held[t][lock] > 0) return t;
        }
        return -1;
    }

    private int holdCount(int lock) {
        return holder(lock) < 0 ? 0 : held[holder(lock)][lock];
    }

    int waitsFor(int thread) {
        int[] instruction = current(thread);
        if (instruction == null || instruction[2] != 1) return -1;
        int owner = holder(instruction[3]);
        return owner == thread ? -1 : owner;
    }

    boolean deadlocked() {
        for (int t = 0; t < threads; t++) {
            int u = t;
            for (int i = 0; i < 4; i++) {
                u = waitsFor(u);
                if (u == t) return true;
            }
        }
        return false;
    }

    /** In the form of Programs.machine. */
    String machine() {
        StringBuilder s = new StringBuilder();
        for (int i = -1; i <= 8; i++) {
            s.append(holder(i)).append('x').append(holdCount(i)).append(' ');
        }
        for (int i = -1; i <= 4; i++) {
            int[] instruction = current(i);
            s.append(instruction == null ? "-1:-1" : instruction[0] + ":" + instruction[1]);
            s.append('>').append(waitsFor(i)).append(' ');
        }
        return s.append(deadlocked()).toString();
    }

    /** In the form of Programs.findings. */
    String findings() {
        StringBuilder s = new StringBuilder();
        for (int a = 0; a < 8; a++) {
            for (int b = 0; b < 8; b++) {
                if (edge[a][b]) s.append(a).append("->").append(b).append(' ');
            }
        }
        s.append("levels");
        for (int i = -1; i <= 8; i++) {
            s.append(' ').append(verdict == 0 && i >= 0 && i < locks ? longestTo(i) : -1);
        }
        s.append(" cycle ").append(verdict == 1 ? cycleThrough() : -1).append(" solo");
        for (int i = -1; i <= 4; i++) {
            s.append(' ').append(sealed && i >= 0 && i < threads ? Math.min(513, unrolled.get(i).size()) : -1);
        }
        return s.toString();
    }
}
