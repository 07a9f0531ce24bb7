import java.io.IOException;
import java.util.LinkedHashMap;
import java.util.List;
import java.util.Map;
import java.util.Set;
import java.util.function.Consumer;

/**
 * Every sentence of the rules and the promises has a test of its own among the boundary tests, or is
 * told here to name no boundary case; and every boundary test quotes words that stand in the document.
 */
public final class DocumentTest {
    private static final Set<String> NO_BOUNDARY_CASE = Set.of(
        "`LockLevelTypes` is a lock-order checker and interleaving machine for a tiny threaded program.",
        "An instruction is an opcode and an argument:",
        "Executing the current instruction:",
        // The constants are for FaceTest.
        "Public constants:",
        "Opcodes: `OP_NOP = 0`, `OP_ACQ = 1`, `OP_REL = 2`, `OP_CALL = 3`.",
        "Sizes: `PROCS = 8`, `PROC_CAP = 8`, `CODE_CAP = 32`, `SOLO_LIMIT = 512`.",
        "Errors of `emit`: `ERR_SEALED = -1`, `ERR_PROC = -2`, `ERR_OP = -3`, `ERR_ARG = -4`, `ERR_FULL = -5`.",
        "Verdicts: `ACCEPT = 0`, `REJECT_CYCLE = 1`, `REJECT_LONG = 2`.",
        "Step answers: `STEP_OK = 0`, `STEP_BLOCKED = 1`, `STEP_DONE = 2`, `STEP_BAD = 3`.");

    /** The parts of the document that promise nothing that a call could show. */
    private static final Set<String> OTHER_PARTS = Set.of("LockLevelTypes", "The public face", "Not promised");

    public static void main(String[] args) throws IOException {
        Due due = new Due();
        Map<String, Consumer<Sentences>> tests = tests();
        Map<String, List<String>> parts = Document.sentences();
        parts.forEach((heading, sentences) -> {
            if (!OTHER_PARTS.contains(heading)) {
                due.yes("boundary tests for " + heading, tests.containsKey(heading));
                compare(due, heading, sentences, Sentences.quotes(tests.getOrDefault(heading, none -> { })));
            }
        });
        for (String heading : tests.keySet()) {
            due.yes("the document has a part " + heading, parts.containsKey(heading));
        }
        due.end();
    }

    private static void compare(Due due, String heading, List<String> sentences, List<String> quotes) {
        for (String sentence : sentences) {
            boolean quoted = quotes.stream().anyMatch(sentence::contains);
            due.yes(heading + ", a test for: " + sentence, quoted != NO_BOUNDARY_CASE.contains(sentence));
        }
        for (String quote : quotes) {
            due.yes(heading + ", it says: " + quote, sentences.stream().anyMatch(sentence -> sentence.contains(quote)));
        }
    }

    private static Map<String, Consumer<Sentences>> tests() {
        Map<String, Consumer<Sentences>> tests = new LinkedHashMap<>();
        tests.put("What it is", BoundaryWhatTest::list);
        tests.put("Execution of one thread", BoundaryExecutionTest::list);
        tests.put("Solo runs, order graph, verdict, levels", BoundarySoloTest::list);
        tests.put("The machine", BoundaryMachineTest::list);
        tests.put("Promise 1: Construction and the start", Boundary01Test::list);
        tests.put("Promise 2: emit", Boundary02Test::list);
        tests.put("Promise 3: setEntry", Boundary03Test::list);
        tests.put("Promise 4: check", Boundary04Test::list);
        tests.put("Promise 5: restart", Boundary05Test::list);
        tests.put("Promise 6: step", Boundary06Test::list);
        tests.put("Promise 7: run", Boundary07Test::list);
        tests.put("Promise 8: order", Boundary08Test::list);
        tests.put("Promise 9: level", Boundary09Test::list);
        tests.put("Promise 10: cycleLock", Boundary10Test::list);
        tests.put("Promise 11: soloLength", Boundary11Test::list);
        tests.put("Promise 12: holder and holdCount", Boundary12Test::list);
        tests.put("Promise 13: frameProc and framePc", Boundary13Test::list);
        tests.put("Promise 14: waitsFor and deadlocked", Boundary14Test::list);
        return tests;
    }
}
