import java.util.function.Consumer;

/** Runs one test for each sentence of the document that names an edge, and sees that no sentence is left out. */
final class Sentences {
    private final Document document;
    private String heading = "";
    private int tests = 0;
    private int broken = 0;

    Sentences(Document document) {
        this.document = document;
    }

    void under(String newHeading) {
        heading = newHeading;
    }

    /** The sentence, word for word, and the test that fails when it doesn't hold. */
    void holds(String sentence, Consumer<Edge> test) {
        quote(sentence);
        tests++;
        Edge edge = new Edge(heading + ": " + sentence);
        try {
            test.accept(edge);
        } catch (RuntimeException thrown) {
            edge.wrong("threw " + thrown);
        }
        if (edge.compared() == 0) {
            edge.wrong("the test itself: nothing was compared");
        }
        broken += edge.wrongs() == 0 ? 0 : 1;
    }

    /** The declaration at the head of a promise, without its quotes and colon. */
    void declares(String declaration) {
        String due = "public " + Face.bare(declaration);
        holds("`" + declaration + "`:", edge -> edge.right(Face.shown().contains(due), () -> "not shown: " + due));
    }

    /** Text that says nothing that a call could show. */
    void plain(String text) {
        quote(text);
    }

    private void quote(String text) {
        if (!document.quote(heading, text)) {
            broken++;
            System.out.println("not once, or quoted twice, under '" + heading + "': " + text);
        }
    }

    void end() {
        for (String text : document.unquoted()) {
            broken++;
            System.out.println("no test quotes " + text);
        }
        System.out.println("edges: " + tests + " sentences, " + broken + " broken");
        if (broken != 0 || tests == 0) {
            System.exit(1);
        }
    }
}
