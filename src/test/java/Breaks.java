import java.io.IOException;
import java.nio.file.Files;
import java.nio.file.Path;
import java.util.ArrayList;
import java.util.List;
import java.util.concurrent.ExecutionException;
import java.util.concurrent.ExecutorService;
import java.util.concurrent.Executors;
import java.util.concurrent.Future;

/**
 * Breaks one sentence of the document after the other in the class, and says whether the cases of BoundaryTest that
 * name this very sentence find it. Like Mutants it tests the tests, and .ci/run leaves it out.
 */
final class Breaks {
    private final Document document;
    private final Trial trial = new Trial("BoundaryTest");
    private final String source = Files.readString(Trial.SOURCE);
    private final ExecutorService workers = Executors.newFixedThreadPool(Runtime.getRuntime().availableProcessors());
    private final List<Future<String>> results = new ArrayList<>();
    private String sentence = "";

    private Breaks(Document document) throws IOException {
        this.document = document;
    }

    public static void main(String[] args) throws IOException, InterruptedException, ExecutionException {
        Document document = new Document(Path.of("../shared/DOC.md"));
        BoundaryTest.passOverWhatNoCallShows(document);
        Breaks breaks = new Breaks(document);
        new BreaksOfTerms(breaks).run();
        new BreaksOfPromises(breaks).run();
        System.exit(breaks.end() ? 0 : 1);
    }

    /** The sentence that is broken next: of a promise, or of the terms if this promise has none such. */
    void says(int promise, String beginning) {
        document.name(promise, beginning);
        sentence = document.inFull(promise, beginning);
    }

    /** It is broken if, behind this place in the class and in the same method, other words stand in place of these. */
    void brokenBy(String place, String words, String others) {
        int from = source.indexOf(place);
        int at = source.indexOf(words, Math.max(0, from));
        if (from < 0 || source.indexOf(place, from + 1) >= 0 || at < 0 || source.substring(from, at).contains("\n\n")) {
            throw new IllegalStateException("not once in the class: " + place + ", and then: " + words);
        }
        String broken = source.substring(0, at) + others + source.substring(at + words.length());
        String name = sentence + "\n    " + place + " .. " + words + "   =>   " + others + "\n        ";
        String only = "only=" + sentence;
        int number = results.size();
        results.add(workers.submit(() -> name + trial.run(number, broken, only)));
    }

    /** Tells what was not found and, if asked, what was; false if a break was not found or a sentence has none. */
    private boolean end() throws InterruptedException, ExecutionException {
        int bad = 0;
        for (Future<String> result : results) {
            String told = result.get();
            boolean found = !told.endsWith(Trial.NOT_FOUND) && !told.endsWith(Trial.NOT_COMPILED);
            bad += found ? 0 : 1;
            if (!found || Boolean.getBoolean("all")) {
                System.out.println(told);
            }
        }
        workers.shutdown();
        List<String> without = document.sentencesWithoutTest();
        for (String one : without) {
            System.out.println("no break of: " + one);
        }
        System.out.println(results.size() + " breaks, " + bad + " of them not found; " + without.size() + " sentences without one");
        return bad == 0 && without.isEmpty();
    }
}
