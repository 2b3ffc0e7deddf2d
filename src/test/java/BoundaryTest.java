import java.io.IOException;
import java.nio.file.Path;

/** Runs a test for each sentence of the document that names a boundary, and asks that no sentence is left out. */
public final class BoundaryTest {
    public static void main(String[] args) throws IOException {
        Sentences all = new Sentences("BoundaryTest");
        BoundariesOfOffice.addTo(all);
        BoundariesOfTexts.addTo(all);
        BoundariesOf01to19.addTo(all);
        BoundariesOf20to35.addTo(all);
        BoundariesOf36to52.addTo(all);
        BoundariesOf53to65.addTo(all);
        all.compareWith(Path.of("../shared/DOC.md"));
        all.end();
    }
}
