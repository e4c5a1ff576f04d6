import java.util.Set;

/** Runs the test of each sentence of the document that names an edge. */
public final class EdgeTest {
    private EdgeTest() {
    }

    public static void main(String[] args) {
        Edges edges = Edges.all();
        for (String sentence : edges.sentences()) {
            edges.run(sentence);
        }
        System.out.println("EdgeTest went through " + edges.sentences().size() + " sentences");
        Check.end("EdgeTest");
    }

    public static Set<String> sentences() {
        return Edges.all().sentences();
    }

    /** For MutantTest, which asks this of programs that are broken. */
    public static boolean holds(String sentence) {
        Check.hush();
        Edges.all().run(sentence);
        return Check.allHeld();
    }
}
