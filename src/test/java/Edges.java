import java.util.LinkedHashMap;
import java.util.Map;
import java.util.Set;

/** The sentences of the document that name an edge, each with a test of its own. */
final class Edges {
    private final Map<String, Runnable> tests = new LinkedHashMap<>();

    /** All of them, in the order of the promises. */
    static Edges all() {
        Edges edges = new Edges();
        BoardEdges.addTo(edges);
        MoveEdges.addTo(edges);
        SayingEdges.addTo(edges);
        AheadEdges.addTo(edges);
        GameEdges.addTo(edges);
        SheetEdges.addTo(edges);
        return edges;
    }

    void add(String sentence, Runnable test) {
        Check.that("a test of its own: " + sentence, tests.put(sentence, test) == null);
    }

    Set<String> sentences() {
        return tests.keySet();
    }

    /** Runs the test of one sentence alone; a program that throws there does not hold it. */
    void run(String sentence) {
        Check.about(sentence);
        try {
            tests.get(sentence).run();
        } catch (RuntimeException thrown) {
            Check.that("nothing is thrown, but there was " + thrown, false);
        }
    }
}
