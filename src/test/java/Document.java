import java.io.IOException;
import java.nio.file.Files;
import java.nio.file.Path;
import java.util.ArrayList;
import java.util.List;
import java.util.regex.Matcher;
import java.util.regex.Pattern;

/** The sentences of ../shared/DOC.md, cut at full stops and semicolons, and which of them tests have named. */
final class Document {
    private static final Pattern HEADING = Pattern.compile("## Promise (\\d+):.*");
    private static final Pattern FACE = Pattern.compile("^(- |`[^`]*\\)`: )");
    private static final int TERMS = 0;

    private static final class Sentence {
        final int promise;
        final String words;
        boolean named = false;

        Sentence(int promise, String words) {
            this.promise = promise;
            this.words = words;
        }

        String inFull() {
            return (promise == TERMS ? "terms: " : "promise " + promise + ": ") + words;
        }
    }

    private final List<Sentence> sentences = new ArrayList<>();

    Document(Path path) throws IOException {
        int promise = TERMS;
        boolean promised = true;
        boolean code = false;
        for (String line : Files.readAllLines(path)) {
            if (line.startsWith("```")) {
                code = !code;
            } else if (line.startsWith("#")) {
                Matcher heading = HEADING.matcher(line);
                promise = heading.matches() ? Integer.parseInt(heading.group(1)) : TERMS;
                promised = !line.equals("## Not promised");
            } else if (promised && !code) {
                cut(line, promise);
            }
        }
    }

    private void cut(String line, int promise) {
        for (String words : line.split("(?<=[.)])\\s+(?=[A-Z(])|;\\s+(?=\\S)|\\.$")) {
            if (!words.isBlank()) {
                sentences.add(new Sentence(promise, FACE.matcher(words).replaceFirst("")));
            }
        }
    }

    /** Notes that a test names the sentence that begins so, of this promise or, if it has none, of the terms. */
    void name(int promise, String beginning) {
        sentence(promise, beginning).named = true;
    }

    /** The whole sentence that begins so, with where it stands. */
    String inFull(int promise, String beginning) {
        return sentence(promise, beginning).inFull();
    }

    private Sentence sentence(int promise, String beginning) {
        Sentence sentence = find(promise, beginning);
        if (sentence == null) {
            sentence = find(TERMS, beginning);
        }
        if (sentence == null) {
            throw new IllegalStateException("neither promise " + promise + " nor the terms say: " + beginning);
        }
        return sentence;
    }

    /** Notes that the sentence that begins so says nothing that a call could show. */
    void passOver(String beginning) {
        name(TERMS, beginning);
    }

    private Sentence find(int promise, String beginning) {
        Sentence found = null;
        for (Sentence sentence : sentences) {
            if (sentence.promise == promise && sentence.words.equals(beginning)) {
                return sentence;
            }
            if (sentence.promise == promise && sentence.words.startsWith(beginning)) {
                if (found != null) {
                    throw new IllegalStateException("two sentences begin so: " + beginning);
                }
                found = sentence;
            }
        }
        return found;
    }

    List<String> sentencesWithoutTest() {
        List<String> without = new ArrayList<>();
        for (Sentence sentence : sentences) {
            if (!sentence.named) {
                without.add(sentence.inFull());
            }
        }
        return without;
    }
}
