import java.util.ArrayList;
import java.util.List;
import java.util.Set;

/** All calls with all kinds of arguments in several states: an error changes nothing, nor does a call that only tells. */
final class Refusals {
    private static final String[] STATES = {
        "",
        "reset(2) link(0,1,1) put(0) hide(1) text(0-1;) ",
        "reset(2) put(0) put(1) turn() ",
        Runs.RING4 + "put(0) put(2) hide(1) setNews(1,1) flee(2) turn() text(0-1;0-1;) ",
        Runs.BUSY,
        Runs.FULL,
        Runs.RING4 + "hide(1) setNews(3,7) turn()*8 flee(2) text(0-1;2) ",
        "reset(3) " + Runs.links("01 12 02") + "turn()*8 release() turn()*2 put(1) order(0,2) undo() undo() ",
    };
    private static final String[] NUMBERS = {"LEAST", "-1", "0", "1", "2", "3", "6", "9", "65", "MOST"};
    private static final Set<String> CHANGES = Set.of("reset", "link", "put", "leave", "hide", "release", "order", "flee",
        "setNews", "turn", "tell", "lay");
    private static final String[] CALLS = {"reset1", "link3", "lay0", "put1", "leave0", "order2", "release0", "belief0",
        "beliefAfter1", "tell2", "turn0",
        "undo0", "count1", "neighbours1", "searcher2", "hide1", "flee1", "setNews2", "evader1", "ahead0", "planTurns0",
            "planOrder2", "planMoves0", "settles0",
        "leastSearchers0", "bestTurns1", "type1", "clearText0", "fault0"};
    private static final String ERROR = "A call that returns an error changes nothing.";
    private static final String CHANGE = "The changes are the calls of";
    private static final String HISTORY = "A history of at most 5 states is kept";
    private final Cases c;

    Refusals(Cases cases) {
        c = cases;
    }

    void run() {
        constants();
        for (String state : STATES) {
            for (int i = 0; i < CALLS.length; i++) {
                int promise = i + 2;
                String name = CALLS[i].substring(0, CALLS[i].length() - 1);
                for (String call : callsOf(CALLS[i])) {
                    tryCall(promise, name, state, call);
                }
            }
        }
    }

    private void constants() {
        c.run(7, "The constants: `INVALID_ARGUMENT = -1`", "no such searcher", "order(0,0)=-1");
        c.run(6, "`NOT_POSSIBLE = -2`", "nobody to leave", "leave()=-2");
        c.run(5, "`LIMIT_REACHED = -3`", "a fourth searcher", "put(0)*3 put(0)=-3");
        c.run(22, "`NOT_FOUND = -4`", "no plan", "planTurns()=-4");
    }

    private static List<String> callsOf(String call) {
        List<String> made = new ArrayList<>();
        String name = call.substring(0, call.length() - 1);
        switch (call.charAt(call.length() - 1)) {
            case '0' -> made.add(name + "()");
            case '1' -> {
                for (String a : NUMBERS) {
                    made.add(name + "(" + a + ")");
                }
            }
            default -> {
                for (String a : NUMBERS) {
                    for (String b : NUMBERS) {
                        made.add(name + "(" + a + "," + b + (name.equals("link") ? ",1)" : ")"));
                    }
                }
                if (name.equals("link")) {
                    made.addAll(List.of("link(0,1,-1)", "link(0,1,0)", "link(0,1,2)", "link(1,0,LEAST)", "link(1,0,MOST)"));
                }
            }
        }
        return made;
    }

    private void tryCall(int promise, String name, String state, String call) {
        if (!c.asksFor(promise, ERROR) && !c.asksFor(promise, CHANGE) && !c.asksFor(promise, HISTORY)) {
            return;
        }
        int recorded = c.answer(state, "count(7)");
        int answer = c.answer(state, call);
        boolean changes = CHANGES.contains(name) || name.equals("undo") || name.equals("type") || name.equals("clearText");
        if (answer < 0) {
            c.same(promise, ERROR, call, state + call, state);
        } else if (!changes) {
            c.same(promise, CHANGE, call + " is none", state + call, state);
        } else if (CHANGES.contains(name)) {
            c.run(promise, HISTORY, call, state + call + " count(7)=" + Math.min(5, recorded + 1));
            c.samePresent(promise, HISTORY, call + " is undone", state + call + " undo()", state);
        }
    }
}
