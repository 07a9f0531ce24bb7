import java.util.ArrayList;
import java.util.List;
import java.util.function.Consumer;

/** Runs a test of its own for each sentence of one part of the document. */
final class Sentences {
    private final boolean running;
    private final List<String> quotes = new ArrayList<>();
    private int broken = 0;

    private Sentences(boolean running) {
        this.running = running;
    }

    /** Runs the tests of the list, and ends the program with exit code 1 if a sentence does not hold. */
    static void run(Consumer<Sentences> list) {
        Sentences sentences = new Sentences(true);
        list.accept(sentences);
        System.out.println(sentences.quotes.size() + " sentences, " + sentences.broken + " do not hold");
        if (sentences.broken != 0 || sentences.quotes.isEmpty()) {
            System.exit(1);
        }
    }

    /** The words that the list quotes; nothing runs. */
    static List<String> quotes(Consumer<Sentences> list) {
        Sentences sentences = new Sentences(false);
        list.accept(sentences);
        return sentences.quotes;
    }

    /** The words of the document, or those of them that name one boundary case, and their test. */
    void says(String quote, Consumer<Due> test) {
        quotes.add(quote);
        if (!running) {
            return;
        }
        Due due = new Due();
        try {
            test.accept(due);
        } catch (RuntimeException thrown) {
            due.same("exceptions (" + thrown + ")", 1, 0);
        }
        if (!due.holds()) {
            broken++;
            System.out.println("  does not hold: " + quote);
        }
    }
}
