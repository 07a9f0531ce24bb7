import java.util.LinkedHashMap;
import java.util.Map;
import java.util.function.Consumer;
import java.util.function.Function;
import java.util.function.Supplier;

/** Objects in every kind of state, made afresh each time: one is called, and a twin left alone. */
final class States {
    private static final String SCHEDULE = "0123".repeat(10) + "3210".repeat(4) + "00000000111111112222222233333333";
    private static final Map<String, Function<LockLevelTypes, String>> LOOKS = looks();

    private States() {
    }

    /** A question with one argument; a boolean counts 1 or 0. */
    interface Question {
        int ask(LockLevelTypes x, int argument);
    }

    static Map<String, Supplier<LockLevelTypes>> notSealed() {
        Map<String, Supplier<LockLevelTypes>> states = new LinkedHashMap<>();
        states.put("empty and smallest", () -> new LockLevelTypes(2, 1));
        states.put("empty and largest", () -> new LockLevelTypes(8, 4));
        states.put("written", States::written);
        states.put("with a cycle", States::cyclic);
        states.put("with a long run", States::tooLong);
        states.put("with a full procedure", () -> Programs.make(2, 2, "A0 A1 N N R1 R0 N N", "A0 R0"));
        states.put("full", () -> Programs.make(8, 4, "A0 A1 A2 A3 A4 A5 A6 A7", "A0 A1 A2 A3 A4 A5 A6 A7",
            "N N N N N N N N", "A7 R7 A7 R7 A7 R7 A7 R7"));
        return states;
    }

    private static LockLevelTypes written() {
        LockLevelTypes x = Programs.make(3, 3, "A0 A1 R1 R0", "A1 C4 R1", "A2 A2 R2", "N", "A2 R2");
        x.setEntry(2, 4);
        return x;
    }

    static Map<String, Supplier<LockLevelTypes>> sealed() {
        Map<String, Supplier<LockLevelTypes>> states = new LinkedHashMap<>();
        states.put("empty", () -> Programs.sealed(2, 1));
        states.put("accepted, at the start", () -> at("", accepted()));
        states.put("accepted, in a call, a lock held twice", () -> at("0001", accepted()));
        states.put("accepted, a chain of waits", () -> at("012", Programs.make(4, 3, "A0 A1", "A1 A2", "A2 N")));
        states.put("accepted, done with locks kept", () -> at("00", Programs.make(2, 2, "A0 A1", "A0 N")));
        states.put("cycle, at the start", () -> at("", cyclic()));
        states.put("cycle, one waits", () -> at("001", cyclic()));
        states.put("deadlock of two", () -> at("01", cyclic()));
        states.put("deadlock of two, after blocked steps", () -> at("010101", cyclic()));
        states.put("deadlock of four", () -> at("0123", Programs.make(4, 4, "A0 A1", "A1 A2", "A2 A3", "A3 A0")));
        states.put("long, at the start", () -> at("", tooLong()));
        states.put("long, past the limit", () -> at("0".repeat(600) + "1", tooLong()));
        return states;
    }

    private static LockLevelTypes accepted() {
        return Programs.make(3, 3, "A0 A0 C4 R0", "A1 N R1", "A0 N R0", "", "A1 N R1");
    }

    private static LockLevelTypes cyclic() {
        return Programs.make(2, 2, "A0 A1 R1 R0", "A1 A0 R0 R1");
    }

    private static LockLevelTypes tooLong() {
        return Programs.makeLong(2, 2, "A0 C5 C5 R0", "A1 A0 R0");
    }

    private static LockLevelTypes at(String schedule, LockLevelTypes x) {
        x.check();
        Programs.steps(x, schedule);
        return x;
    }

    /** The question gets the same answer for every argument in every state, and changes nothing. */
    static void answersAlways(Due due, Map<String, Supplier<LockLevelTypes>> states, Question question, int want) {
        states.forEach((name, state) -> {
            LockLevelTypes x = state.get();
            for (int argument : Programs.NUMBERS) {
                due.same("with " + argument + ", " + name, question.ask(x, argument), want);
            }
        });
        changesNothing(due, states, x -> askAll(x, question));
    }

    /** Asks the question with every argument in every state: nothing may change by it. */
    static void askingChangesNothing(Due due, Question question) {
        changesNothing(due, notSealed(), x -> askAll(x, question));
        changesNothing(due, sealed(), x -> askAll(x, question));
    }

    private static void askAll(LockLevelTypes x, Question question) {
        for (int argument : Programs.NUMBERS) {
            question.ask(x, argument);
        }
    }

    static void changesNothing(Due due, Map<String, Supplier<LockLevelTypes>> states, Consumer<LockLevelTypes> calls) {
        states.forEach((name, state) -> {
            Supplier<LockLevelTypes> called = () -> {
                LockLevelTypes x = state.get();
                calls.accept(x);
                return x;
            };
            alike(due, name, called, state);
        });
    }

    /**
     * What is seen of the two is the same. Each look is at a new pair: if the calls of a look changed
     * something themselves, they would hide what made the two differ.
     */
    static void alike(Due due, String name, Supplier<LockLevelTypes> one, Supplier<LockLevelTypes> twin) {
        LOOKS.forEach((look, seen) -> due.same(look + ", " + name, seen.apply(one.get()), seen.apply(twin.get())));
    }

    private static Map<String, Function<LockLevelTypes, String>> looks() {
        Map<String, Function<LockLevelTypes, String>> looks = new LinkedHashMap<>();
        questions().forEach((name, question) -> {
            looks.put(name, question);
            looks.put("check, " + name, x -> x.check() + " " + question.apply(x));
        });
        looks.put("restart", x -> "" + x.restart());
        looks.put("room", States::room);
        looks.put("room, all", x -> room(x) + x.check() + Programs.all(x));
        looks.put("steps", x -> Programs.steps(x, SCHEDULE));
        looks.put("check, steps", x -> x.check() + Programs.steps(x, SCHEDULE));
        looks.put("check, restart, steps", x -> "" + x.check() + x.restart() + Programs.steps(x, SCHEDULE));
        looks.put("check, machine after each step", x -> x.check() + machines(x));
        looks.put("check, restart, machine after each step", x -> "" + x.check() + x.restart() + machines(x));
        looks.put("check, run", x -> x.check() + " " + x.run(0xE4E4E4E4, 1024) + " " + x.run(0, 1024) + Programs.all(x));
        return looks;
    }

    private static Map<String, Function<LockLevelTypes, String>> questions() {
        Map<String, Function<LockLevelTypes, String>> questions = new LinkedHashMap<>();
        for (int i = -1; i <= 8; i++) {
            int n = i;
            for (int b = -1; b <= 8; b++) {
                int m = b;
                questions.put("order(" + n + ", " + m + ")", x -> "" + x.order(n, m));
            }
            questions.put("level(" + n + ")", x -> "" + x.level(n));
            questions.put("holder(" + n + ")", x -> "" + x.holder(n));
            questions.put("holdCount(" + n + ")", x -> "" + x.holdCount(n));
        }
        for (int i = -1; i <= 4; i++) {
            int n = i;
            questions.put("soloLength(" + n + ")", x -> "" + x.soloLength(n));
            questions.put("frameProc(" + n + ")", x -> "" + x.frameProc(n));
            questions.put("framePc(" + n + ")", x -> "" + x.framePc(n));
            questions.put("waitsFor(" + n + ")", x -> "" + x.waitsFor(n));
        }
        questions.put("cycleLock", x -> "" + x.cycleLock());
        questions.put("deadlocked", x -> "" + x.deadlocked());
        questions.put("all", Programs::all);
        return questions;
    }

    private static String room(LockLevelTypes x) {
        StringBuilder s = new StringBuilder();
        for (int i = 0; i < 64; i++) {
            s.append(x.emit(7 - i % 8, 0, 0)).append(' ');
        }
        return s.toString();
    }

    private static String machines(LockLevelTypes x) {
        StringBuilder s = new StringBuilder();
        for (char thread : SCHEDULE.toCharArray()) {
            s.append(x.step(thread - '0')).append(' ').append(Programs.machine(x)).append('\n');
        }
        return s.toString();
    }
}
