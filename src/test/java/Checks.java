/** Counts answers that are not as due, and ends the test with exit code 1 if there was one. */
final class Checks {
    private static final int MOST_SHOWN = 40;
    private int made;
    private int wrong;
    private String sentence = "";

    /** What is checked from here on is due by this sentence of the document. */
    void sentence(String words) {
        sentence = words;
    }

    void due(String call, long got, long want) {
        made++;
        if (got != want) {
            wrong++;
            if (wrong <= MOST_SHOWN) {
                String reason = sentence.isEmpty() ? "" : ": \"" + sentence + "\"";
                System.out.println(call + " answered " + got + ", due is " + want + reason);
            }
        }
    }

    void holds(String what, boolean holds) {
        due(what, holds ? 1 : 0, 1);
    }

    boolean allRight() {
        return wrong == 0;
    }

    void finish(String test) {
        System.out.println(test + ": " + made + " answers, " + wrong + " wrong");
        if (wrong > 0 || made == 0) {
            System.exit(1);
        }
    }

    /** Puts a text in place of the one that there is. */
    static void write(GradeGraph graph, String text) {
        graph.clearText();
        for (int index = 0; index < text.length(); index++) {
            graph.append(text.charAt(index));
        }
    }

    /** What a source has in its range, by the document's words. */
    static int source(int seed, int frame, int x, int y, int channel) {
        return (7 * seed + 31 * x + 17 * y + 11 * frame + 53 * channel + x * y * frame) % 256;
    }

    /** A new graph with the nodes of a text. */
    static GradeGraph built(String text) {
        GradeGraph graph = new GradeGraph();
        write(graph, text);
        if (graph.build() < 0) {
            throw new IllegalStateException("no graph can be built from " + text);
        }
        return graph;
    }
}
