import java.io.IOException;
import java.nio.file.Path;

/**
 * A test for each sentence of the document that names a boundary case. A test is found by its promise
 * and the sentence, which it quotes; each quotation must stand in the document, and in the end every
 * sentence of the promises and of the terms must have been quoted.
 */
public final class BoundaryTest {
    private static Document document;

    private BoundaryTest() {
    }

    public static void main(String[] args) throws IOException {
        document = new Document(Path.of("../shared/DOC.md"));
        BoundaryNet.all();
        BoundaryProgram.all();
        BoundaryWords.all();
        BoundaryRun.all();
        BoundaryWays.all();
        BoundaryPlaces.all();
        document.nothingIsLeftOut();
        Checks.end();
    }

    static void says(int promise, String sentence, String name, String script) {
        document.quote(promise, sentence);
        Script.run("promise " + promise + ", \"" + sentence + "\", " + name, script);
    }
}
