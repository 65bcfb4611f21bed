/** Promise 13: what is recorded, what is restored, and how much of it is kept. */
final class BoundariesOfHistory {
    private static final String CHANGES = "The changes are the calls of reset, link, put, leave, hide, release, order, flee, "
        + "setNews, turn, tell and lay";
    private static final String HISTORY = "A history of at most 5 states is kept: each change records everything before it (but "
        + "the text)";
    /** Four changes, so that a fifth leaves the history whole. */
    private static final String FOUR = "text(0-1;1-2;2-3;) lay() put(0) turn() hide(2) ";
    private static final String[] EVERY_CHANGE = {"reset(2)", "reset(6)", "link(0,1,0)", "link(0,3,1)", "lay()", "put(2)",
        "put(3)", "leave()", "order(0,1)",
        "release()", "tell(0,1)", "tell(1,3)", "turn()", "hide(3)", "flee(1)", "setNews(1,1)"};
    private final Cases c;

    BoundariesOfHistory(Cases cases) {
        c = cases;
    }

    void run() {
        undo();
        nothingBecomesDifferent();
        whatIsNoChange();
        everyChangeIsUndone();
        everyKeptBeliefIsRestored();
        atMostFive();
        butTheText();
    }

    private void undo() {
        c.run(13, "Restores the latest state of the history, which is removed from it", "one after the other, and none twice",
            "setNews(1,0) setNews(2,0) undo()=1 count(5)=1 undo()=0 count(5)=0 undo()=IMPOSSIBLE");
        c.run(13, "Returns the number of states that are left in the history", "five to none",
            "turn()*5 undo()=4 undo()=3 undo()=2 undo()=1 undo()=0 count(3)=0 count(7)=0");
        c.refused(13, "NOT_POSSIBLE if it is empty", "never a change", "", "undo()=IMPOSSIBLE");
        c.refused(13, "NOT_POSSIBLE if it is empty", "all undone", "text(0-1;) put(0) turn() undo() undo() ",
            "undo()=IMPOSSIBLE");
        c.refused(13, "NOT_POSSIBLE if it is empty", "five of more undone", Runs.BUSY + "undo()*5 ", "undo()=IMPOSSIBLE");
        c.run(13, "NOT_POSSIBLE if it is empty", "one is left, none is left",
            "turn() undo()=0 undo()=IMPOSSIBLE turn() undo()=0");
    }

    private void nothingBecomesDifferent() {
        c.run(13, CHANGES, "reset to the same", "reset(4)=4 count(7)=1");
        c.run(13, CHANGES, "link of an edge that is not there", "link(0,1,0)=0 count(7)=1");
        c.run(13, CHANGES, "link of an edge that is there", "link(0,1,1)=0 link(0,1,1)=1 count(7)=2");
        c.run(13, CHANGES, "put where one is", "put(0) put(0) count(7)=2");
        c.run(13, CHANGES, "leave", "put(0) leave()=0 count(7)=2");
        c.run(13, CHANGES, "hide at the same node", "hide(1)=1 hide(1)=1 count(7)=2");
        c.run(13, CHANGES, "release of a full belief", "release()=15 count(7)=1");
        c.run(13, CHANGES, "order to stay", "put(0) order(0,0)=0 count(7)=2");
        c.run(13, CHANGES, "flee to the same node", "hide(1) flee(1)=1 count(7)=2");
        c.run(13, CHANGES, "setNews to the same", "setNews(0,0)=0 count(7)=1");
        c.run(13, CHANGES, "turn in which nobody goes", "turn()=15 count(7)=1");
        c.run(13, CHANGES, "tell of what is known", "tell(0,1)=2 tell(0,1)=2 count(7)=2");
        c.run(13, CHANGES, "lay of no edges", "lay()=0 count(7)=1");
    }

    private void whatIsNoChange() {
        c.run(13, CHANGES, "calls that only tell, undo and the text", Runs.PATH4
            + "put(0) count(7)=4 belief() beliefAfter(0) count(0) neighbours(0) searcher(0,0) "
            + "evader(0) ahead() planTurns() planOrder(0,0) planMoves() settles() leastSearchers() bestTurns(1) fault() type(48) "
                + "clearText() count(7)=4 undo()=3 count(7)=3");
        c.run(13, CHANGES, "changes that return an error",
            "reset(7) link(0,0,1) put(4) leave() hide(4) order(0,0) flee(0) setNews(10,0) tell(1,0) type(48) lay() count(7)=0");
    }

    private void everyChangeIsUndone() {
        for (String change : EVERY_CHANGE) {
            c.same(13, HISTORY, "undo of " + change, FOUR + change + " undo()=4", FOUR);
            c.run(13, HISTORY, change + " records one state", FOUR + "count(7)=4 " + change + " count(7)=5");
        }
        String[] busyChanges = {"reset(2)", "link(1,2,0)", "link(3,4,0)", "put(3)", "leave()", "order(0,0)", "release()",
            "tell(1,2)", "tell(0,1)", "turn()", "hide(0)",
            "flee(4)", "setNews(1,7)", "clearText() lay()"};
        for (String change : busyChanges) {
            String text = change.startsWith("clearText()") ? "clearText() " : "";
            c.samePresent(13, HISTORY, "undo of " + change + " when the history was full", Runs.BUSY + change + " undo()=4",
                Runs.BUSY + text);
        }
        c.samePresent(13, HISTORY, "undo of reset after more turns than are kept", Runs.FULL + "reset(2) turn()*3 undo()*4",
            Runs.FULL);
        c.samePresent(13, HISTORY, "undo of turns where a ring of eight begins anew", Runs.PATH6
            + "put(0) hide(3) turn()*6 turn()*4 undo()*4", Runs.PATH6 + "put(0) hide(3) turn()*6");
    }

    private void everyKeptBeliefIsRestored() {
        String eight = Runs.PATH6 + "tell(0,0) turn()*7 ";
        for (int turn = 0; turn <= 7; turn++) {
            c.samePresent(13, HISTORY, "undo of news of turn " + turn, eight + "tell(" + turn + ",0) undo()=4", eight);
        }
        String nine = Runs.PATH6 + "tell(0,0) turn()*8 ";
        c.samePresent(13, HISTORY, "undo of turns in which all eight were replaced", nine + "tell(8,5) turn()*4 undo()*5",
            nine);
    }

    private void atMostFive() {
        c.run(13, HISTORY, "five changes",
            "setNews(1,0) setNews(2,0) setNews(3,0) setNews(4,0) setNews(5,0) count(7)=5 undo()*5 count(5)=0 undo()=IMPOSSIBLE");
        c.run(13, HISTORY, "a sixth drops the oldest",
            "setNews(1,0) setNews(2,0) setNews(3,0) setNews(4,0) setNews(5,0) setNews(6,0) count(7)=5 undo()=4 count(5)=5 "
                + "undo()=3 count(5)=4 undo()=2 count(5)=3 "
            + "undo()=1 count(5)=2 undo()=0 count(5)=1 undo()=IMPOSSIBLE count(5)=1");
        c.run(13, HISTORY, "many more",
            "turn()*100 count(7)=5 undo()=4 undo()=3 undo()=2 undo()=1 undo()=0 count(3)=95 undo()=IMPOSSIBLE");
        c.run(13, HISTORY, "what comes after undo is recorded behind what is left",
            "setNews(1,0) setNews(2,0) undo()=1 setNews(3,0) count(7)=2 undo()=1 count(5)=1 undo()=0 count(5)=0");
        c.run(13, HISTORY, "full, undone and full again",
            "turn()*7 undo()*2 count(3)=5 turn()*3 count(7)=5 count(3)=8 undo()*5 count(3)=3 undo()=IMPOSSIBLE");
        c.run(13, HISTORY, "an error drops nothing", "turn()*5 put(9)=INVALID leave()=IMPOSSIBLE undo()*5 count(3)=0");
    }

    private void butTheText() {
        c.run(13, HISTORY, "what was typed since stays",
            "link(0,1,1) text(0-1;) undo()=0 count(1)=0 fault()=MISSING clearText()=4");
        c.run(13, HISTORY, "what was emptied since stays empty", "text(0-1;) link(0,1,1) clearText()=4 undo()=0 clearText()=0");
        c.run(13, HISTORY, "typing is not undone", "type(48)=1 undo()=IMPOSSIBLE clearText()=1");
        c.run(13, HISTORY, "undo of lay leaves it", "text(0-1;) lay()=1 undo()=0 count(1)=0 lay()=1 clearText()=4");
    }
}
