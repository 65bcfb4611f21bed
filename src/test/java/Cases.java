import java.util.List;
import java.util.function.Function;

/** Tests of single sentences of the document: each names its promise and the sentence, and has a run of calls. */
final class Cases {
    private final Check check = new Check();
    private final Document document;
    /** Breaks asks only for the cases that name this sentence. */
    private final String only = System.getProperty("only", "");
    private int cases = 0;

    Cases(Document document) {
        this.document = document;
    }

    /** A sentence is given by how it begins. False if this case is not asked for. */
    private boolean begin(int promise, String sentence, String title) {
        document.name(promise, sentence);
        boolean asked = asksFor(promise, sentence);
        cases += asked ? 1 : 0;
        check.part("promise " + promise + " (" + sentence + "), " + title);
        return asked;
    }

    /** Whether cases that name this sentence are run. */
    boolean asksFor(int promise, String sentence) {
        return only.isEmpty() || only.equals(document.inFull(promise, sentence));
    }

    /** A run of calls on a new object, with answers that are due. */
    void run(int promise, String sentence, String title, String script) {
        if (!begin(promise, sentence, title)) {
            return;
        }
        Script run = new Script().run(check, script);
        check.holds("the case has an answer that is due", run.answersDue() > 0);
        check.holds("the object is used for at most 512 calls", run.calls() <= Script.MOST_CALLS);
    }

    /** As run, beyond the calls for which an object is used: the limit of t cannot be reached with fewer. */
    void longRun(int promise, String sentence, String title, String script) {
        if (!begin(promise, sentence, title)) {
            return;
        }
        Script run = new Script().run(check, script);
        check.holds("the case has an answer that is due", run.answersDue() > 0);
    }

    /** Each of these calls, with its answer, is refused after this run, and an object shows the same without it. */
    void refused(int promise, String sentence, String title, String before, String... calls) {
        for (String call : calls) {
            if (!begin(promise, sentence, title + ", " + call)) {
                continue;
            }
            check.holds("the case has an answer that is due", new Script().run(check, before + " " + call).answersDue() > 0);
            showTheSame(before + " " + call, before);
        }
    }

    /** Two runs of calls lead to the same, as far as any call shows, the history too. */
    void same(int promise, String sentence, String title, String one, String other) {
        if (!begin(promise, sentence, title)) {
            return;
        }
        showTheSame(one, other);
    }

    /** Two runs of calls lead to the same but for the history. */
    void samePresent(int promise, String sentence, String title, String one, String other) {
        if (!begin(promise, sentence, title)) {
            return;
        }
        compare(one, other, Sight::ofPresent);
        compare(one, other, Sight::ofNews);
    }

    /** What a call answers after this run. */
    int answer(String before, String call) {
        return new Script().run(check, before).answer(call);
    }

    private void showTheSame(String one, String other) {
        compare(one, other, Sight::ofHistory);
        compare(one, other, Sight::ofNews);
    }

    private void compare(String one, String other, Function<PursuitDesk, List<String>> sight) {
        List<String> got = sight.apply(new Script().run(check, one).desk);
        List<String> due = sight.apply(new Script().run(check, other).desk);
        int length = Math.min(got.size(), due.size());
        for (int i = 0; i < length; i++) {
            if (!got.get(i).equals(due.get(i))) {
                check.holds("after [" + one + "] as after [" + other + "]: " + got.get(i) + ", due is " + due.get(i), false);
                return;
            }
        }
        check.is("number of sights", got.size(), due.size());
    }

    void end() {
        if (only.isEmpty()) {
            check.part("../shared/DOC.md");
            for (String sentence : document.sentencesWithoutTest()) {
                check.holds("a test names the sentence of " + sentence, false);
            }
        }
        System.out.println(cases + " cases");
        check.end();
    }
}
