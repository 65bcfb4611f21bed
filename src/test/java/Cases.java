import java.util.List;
import java.util.function.Function;

/** Tests of single sentences of the document: each names its promise and the sentence, and has a run of calls. */
final class Cases {
    private final Check check = new Check();
    private final Document document;
    private int cases = 0;

    Cases(Document document) {
        this.document = document;
    }

    /** Sentences are given by how they begin; several of them are joined by " | ". */
    private void begin(int promise, String sentences, String title) {
        for (String sentence : sentences.split(" \\| ")) {
            document.name(promise, sentence);
        }
        cases++;
        check.part("promise " + promise + " (" + sentences + "), " + title);
    }

    /** A run of calls on a new object, with answers that are due. */
    void run(int promise, String sentences, String title, String script) {
        begin(promise, sentences, title);
        Script run = new Script().run(check, script);
        check.holds("the case has an answer that is due", run.answersDue() > 0);
        check.holds("the object is used for at most 512 calls", run.calls() <= Script.MOST_CALLS);
    }

    /** As run, beyond the calls for which an object is used: the limit of t cannot be reached with fewer. */
    void longRun(int promise, String sentences, String title, String script) {
        begin(promise, sentences, title);
        Script run = new Script().run(check, script);
        check.holds("the case has an answer that is due", run.answersDue() > 0);
    }

    /** Each of these calls, with its answer, is refused after this run, and an object shows the same without it. */
    void refused(int promise, String sentences, String title, String before, String... calls) {
        for (String call : calls) {
            begin(promise, sentences, title + ", " + call);
            check.holds("the case has an answer that is due", new Script().run(check, before + " " + call).answersDue() > 0);
            showTheSame(before + " " + call, before);
        }
    }

    /** Two runs of calls lead to the same, as far as any call shows, the history too. */
    void same(int promise, String sentences, String title, String one, String other) {
        begin(promise, sentences, title);
        showTheSame(one, other);
    }

    /** Two runs of calls lead to the same but for the history. */
    void samePresent(int promise, String sentences, String title, String one, String other) {
        begin(promise, sentences, title);
        compare(one, other, Sight::ofPresent);
        compare(one, other, Sight::ofNews);
    }

    /** What a call answers after this run. */
    int answer(String before, String call) {
        return new Script().run(check, before).answer(call);
    }

    private void showTheSame(String one, String other) {
        compare(one, other, Sight::ofHistory);
        compare(one, other, Sight::ofNews);
    }

    private void compare(String one, String other, Function<PursuitDesk, List<String>> sight) {
        List<String> got = sight.apply(new Script().run(check, one).desk);
        List<String> due = sight.apply(new Script().run(check, other).desk);
        int length = Math.min(got.size(), due.size());
        for (int i = 0; i < length; i++) {
            if (!got.get(i).equals(due.get(i))) {
                check.holds("after [" + one + "] as after [" + other + "]: " + got.get(i) + ", due is " + due.get(i), false);
                return;
            }
        }
        check.is("number of sights", got.size(), due.size());
    }

    void end() {
        for (String sentence : document.sentencesWithoutTest()) {
            check.part("../shared/DOC.md");
            check.holds("a test names the sentence of " + sentence, false);
        }
        System.out.println(cases + " cases");
        check.end();
    }
}
