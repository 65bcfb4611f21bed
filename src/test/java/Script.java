import java.util.regex.Matcher;
import java.util.regex.Pattern;

/**
 * A run of calls as a text, such as "reset(6)=4 text(0-1;) lay()=1 turn()*7 count(3)=7": calls with the
 * answer that is due, or without one; "*7" makes a call seven times; text(..) types these characters.
 */
final class Script {
    private static final Pattern CALL = Pattern.compile("\\s*(\\w+)\\(([^)]*)\\)(?:\\*(\\d+))?(?:=([-\\w]+))?\\s*");
    /** The document leaves free what an object answers after so many calls. */
    static final int MOST_CALLS = 512;

    final PursuitDesk desk = new PursuitDesk();
    private int calls = 0;
    private int answersDue = 0;

    /** Makes all calls and tells each answer that is not due to the check. */
    Script run(Check check, String script) {
        Matcher matcher = CALL.matcher(script);
        int end = 0;
        while (matcher.find() && matcher.start() == end) {
            int times = matcher.group(3) == null ? 1 : Integer.parseInt(matcher.group(3));
            for (int i = 0; i < times; i++) {
                one(check, matcher);
            }
            end = matcher.end();
        }
        if (end != script.length()) {
            throw new IllegalStateException("no call: " + script.substring(end));
        }
        return this;
    }

    private void one(Check check, Matcher matcher) {
        int answer = call(desk, matcher.group(1), matcher.group(2));
        calls += matcher.group(1).equals("text") ? matcher.group(2).length() : 1;
        if (matcher.group(4) != null) {
            answersDue++;
            check.is("call " + calls + ", " + matcher.group(1) + "(" + matcher.group(2) + ")", answer, due(matcher.group(4)));
        }
    }

    int answer(String call) {
        Matcher matcher = CALL.matcher(call);
        if (!matcher.matches()) {
            throw new IllegalStateException("no call: " + call);
        }
        return call(desk, matcher.group(1), matcher.group(2));
    }

    int calls() {
        return calls;
    }

    int answersDue() {
        return answersDue;
    }

    private static int due(String word) {
        return switch (word) {
            case "INVALID" -> PursuitDesk.INVALID_ARGUMENT;
            case "IMPOSSIBLE" -> PursuitDesk.NOT_POSSIBLE;
            case "LIMIT" -> PursuitDesk.LIMIT_REACHED;
            case "MISSING" -> PursuitDesk.NOT_FOUND;
            default -> Integer.parseInt(word);
        };
    }

    private static int number(String word) {
        return switch (word) {
            case "LEAST" -> Integer.MIN_VALUE;
            case "MOST" -> Integer.MAX_VALUE;
            default -> Integer.parseInt(word);
        };
    }

    static int call(PursuitDesk desk, String name, String arguments) {
        if (name.equals("text")) {
            int length = 0;
            for (char sign : arguments.toCharArray()) {
                length = desk.type(sign);
            }
            return length;
        }
        String[] words = arguments.isBlank() ? new String[0] : arguments.split(",");
        int[] a = new int[words.length];
        for (int i = 0; i < a.length; i++) {
            a[i] = number(words[i].trim());
        }
        return call(desk, name, a);
    }

    static int call(PursuitDesk desk, String name, int[] a) {
        return switch (name + a.length) {
            case "reset1" -> desk.reset(a[0]);
            case "link3" -> desk.link(a[0], a[1], a[2]);
            case "lay0" -> desk.lay();
            case "put1" -> desk.put(a[0]);
            case "leave0" -> desk.leave();
            case "order2" -> desk.order(a[0], a[1]);
            case "release0" -> desk.release();
            case "belief0" -> desk.belief();
            case "beliefAfter1" -> desk.beliefAfter(a[0]);
            case "tell2" -> desk.tell(a[0], a[1]);
            case "turn0" -> desk.turn();
            case "undo0" -> desk.undo();
            case "count1" -> desk.count(a[0]);
            case "neighbours1" -> desk.neighbours(a[0]);
            case "searcher2" -> desk.searcher(a[0], a[1]);
            case "hide1" -> desk.hide(a[0]);
            case "flee1" -> desk.flee(a[0]);
            case "setNews2" -> desk.setNews(a[0], a[1]);
            case "evader1" -> desk.evader(a[0]);
            case "ahead0" -> desk.ahead();
            case "planTurns0" -> desk.planTurns();
            case "planOrder2" -> desk.planOrder(a[0], a[1]);
            case "planMoves0" -> desk.planMoves();
            case "settles0" -> desk.settles();
            case "leastSearchers0" -> desk.leastSearchers();
            case "bestTurns1" -> desk.bestTurns(a[0]);
            case "type1" -> desk.type(a[0]);
            case "clearText0" -> desk.clearText();
            case "fault0" -> desk.fault();
            default -> throw new IllegalStateException("no call: " + name + " with " + a.length);
        };
    }
}
