import java.io.IOException;
import java.nio.file.Path;

/** A test of its own for each sentence of the document, above all for those that name a boundary. */
public final class BoundaryTest {
    public static void main(String[] args) throws IOException {
        Document document = new Document(Path.of("../shared/DOC.md"));
        passOverWhatNoCallShows(document);
        Cases cases = new Cases(document);
        new BoundariesOfGraph(cases).run();
        new BoundariesOfNews(cases).run();
        new BoundariesOfHistory(cases).run();
        new BoundariesOfPlans(cases).run();
        new BoundariesOfTexts(cases).run();
        new Refusals(cases).run();
        cases.end();
    }

    /** The summary, what is left free, and the headings, which FaceTest looks for. */
    static void passOverWhatNoCallShows(Document document) {
        document.passOver("Pursuit on small graphs");
        document.passOver("the set of nodes at which it can be, meetings");
        document.passOver("what later calls answer is free");
        document.passOver("Ahead of the calls `reset`");
        document.passOver("Ahead of the calls `hide`");
        document.passOver("Ahead of the calls `ahead`");
        document.passOver("Ahead of the calls `type`");
    }
}
