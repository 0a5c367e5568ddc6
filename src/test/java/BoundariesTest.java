import java.io.IOException;
import java.nio.file.Path;

/**
 * Each sentence of the document that names an edge (too small, too large, empty,
 * full, a wrap-around, a refused call) has cases of its own here, under its heading;
 * and no range and no refusal of the document is left without.
 */
public final class BoundariesTest {
    private BoundariesTest() {
    }

    public static void main(String[] args) throws IOException {
        Sentences doc = new Sentences(Path.of("..", "shared", "DOC.md"));
        new TermEdges(doc).all();
        new TextEdges(doc).all();
        new PromiseEdges(doc).all();
        doc.dueAll();
        Due.end();
    }
}
