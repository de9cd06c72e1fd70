import java.io.IOException;
import java.nio.file.Path;

/** Every sentence of the document that names a boundary case, under a test of its own. */
public final class EdgesTest {
    public static void main(String[] args) throws IOException {
        Sentences sentences = new Sentences(new Document(Path.of("../shared/DOC.md")));
        FrameEdges.add(sentences);
        TermsEdges.add(sentences);
        OperationEdges.add(sentences);
        StepEdges.add(sentences);
        NewObjectEdges.add(sentences);
        CodeEdges.add(sentences);
        WriteEdges.add(sentences);
        RunEdges.add(sentences);
        ReadEdges.add(sentences);
        sentences.end();
    }
}
