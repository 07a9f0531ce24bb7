import java.util.LinkedHashMap;
import java.util.Map;
import java.util.function.Consumer;
import java.util.function.Supplier;

/** Objects in every kind of state, made afresh each time: one is called, and a twin left alone. */
final class States {
    private static final String SCHEDULE = "0123".repeat(10) + "3210".repeat(4) + "00000000111111112222222233333333";

    private States() {
    }

    /** A question with one argument; a boolean counts 1 or 0. */
    interface Question {
        int ask(LockLevelTypes x, int argument);
    }

    static Map<String, Supplier<LockLevelTypes>> notSealed() {
        Map<String, Supplier<LockLevelTypes>> states = new LinkedHashMap<>();
        states.put("empty and smallest", () -> new LockLevelTypes(2, 1));
        states.put("empty and largest", () -> new LockLevelTypes(8, 4));
        states.put("written", States::written);
        states.put("with a cycle", () -> Programs.make(2, 2, "A0 A1 R1 R0", "A1 A0 R0 R1"));
        states.put("with a long run", () -> Programs.makeLong(2, 2, "A0 N C5", "A0 A1"));
        states.put("with a full procedure", () -> Programs.make(2, 2, "A0 A1 N N R1 R0 N N", "A0 R0"));
        states.put("full", () -> Programs.make(8, 4, "A0 A1 A2 A3 A4 A5 A6 A7", "A0 A1 A2 A3 A4 A5 A6 A7",
            "N N N N N N N N", "A7 R7 A7 R7 A7 R7 A7 R7"));
        return states;
    }

    private static LockLevelTypes written() {
        LockLevelTypes x = Programs.make(3, 3, "A0 A1 R1 R0", "A1 C4 R1", "A2 A2 R2", "N", "A2 R2");
        x.setEntry(2, 4);
        return x;
    }

    static Map<String, Supplier<LockLevelTypes>> sealed() {
        Map<String, Supplier<LockLevelTypes>> states = new LinkedHashMap<>();
        states.put("empty", () -> Programs.sealed(2, 1));
        states.put("accepted, at the start", () -> at("", accepted()));
        states.put("accepted, in a call, a lock held twice", () -> at("0001", accepted()));
        states.put("accepted, a chain of waits", () -> at("012", Programs.make(4, 3, "A0 A1", "A1 A2", "A2 N")));
        states.put("accepted, done with locks kept", () -> at("00", Programs.make(2, 2, "A0 A1", "A0 N")));
        states.put("cycle, at the start", () -> at("", cyclic()));
        states.put("cycle, one waits", () -> at("001", cyclic()));
        states.put("deadlock of two", () -> at("01", cyclic()));
        states.put("deadlock of two, after blocked steps", () -> at("010101", cyclic()));
        states.put("deadlock of four", () -> at("0123", Programs.make(4, 4, "A0 A1", "A1 A2", "A2 A3", "A3 A0")));
        states.put("long, at the start", () -> at("", tooLong()));
        states.put("long, past the limit", () -> at("0".repeat(600) + "1", tooLong()));
        return states;
    }

    private static LockLevelTypes accepted() {
        return Programs.make(3, 3, "A0 A0 C4 R0", "A1 N R1", "A0 N R0", "", "A1 N R1");
    }

    private static LockLevelTypes cyclic() {
        return Programs.make(2, 2, "A0 A1 R1 R0", "A1 A0 R0 R1");
    }

    private static LockLevelTypes tooLong() {
        return Programs.makeLong(2, 2, "A0 C5 C5 R0", "A1 A0 R0");
    }

    private static LockLevelTypes at(String schedule, LockLevelTypes x) {
        x.check();
        Programs.steps(x, schedule);
        return x;
    }

    /** The question gets the same answer for every argument in every state, and changes nothing. */
    static void answersAlways(Due due, Map<String, Supplier<LockLevelTypes>> states, Question question, int want) {
        states.forEach((name, state) -> {
            LockLevelTypes x = state.get();
            for (int argument : Programs.NUMBERS) {
                due.same("with " + argument + ", " + name, question.ask(x, argument), want);
            }
            alike(due, name, x, state.get());
        });
    }

    static void changesNothing(Due due, Map<String, Supplier<LockLevelTypes>> states, Consumer<LockLevelTypes> calls) {
        states.forEach((name, state) -> {
            LockLevelTypes x = state.get();
            calls.accept(x);
            alike(due, name, x, state.get());
        });
    }

    /** Asks the question with every argument in every state: nothing may change by it. */
    static void askingChangesNothing(Due due, Question question) {
        Consumer<LockLevelTypes> askAll = x -> {
            for (int argument : Programs.NUMBERS) {
                question.ask(x, argument);
            }
        };
        changesNothing(due, notSealed(), askAll);
        changesNothing(due, sealed(), askAll);
    }

    /** What is seen of the two is the same now, and stays the same under the same calls. */
    static void alike(Due due, String name, LockLevelTypes x, LockLevelTypes twin) {
        due.same("all, " + name, Programs.all(x), Programs.all(twin));
        for (int i = 0; i < 64; i++) {
            int proc = 7 - i % 8;
            due.same("emit in " + proc + ", " + name, x.emit(proc, 0, 0), twin.emit(proc, 0, 0));
        }
        due.same("check, " + name, x.check(), twin.check());
        due.same("findings, " + name, Programs.findings(x), Programs.findings(twin));
        stepsAlike(due, name, x, twin);
        due.same("restart, " + name, x.restart() ? 1 : 0, twin.restart() ? 1 : 0);
        stepsAlike(due, name + ", restarted", x, twin);
    }

    /** Only the top frame of a thread can be seen: the frames below it show when the thread goes on. */
    private static void stepsAlike(Due due, String name, LockLevelTypes x, LockLevelTypes twin) {
        due.same("machine, " + name, Programs.machine(x), Programs.machine(twin));
        for (int i = 0; i < SCHEDULE.length(); i++) {
            int thread = SCHEDULE.charAt(i) - '0';
            due.same("step(" + thread + "), " + name, x.step(thread), twin.step(thread));
            due.same("machine after step " + i + ", " + name, Programs.machine(x), Programs.machine(twin));
        }
    }
}
