/** Promises 10 to 12 and 17 to 20: kept beliefs, news, turns and the hidden evader. */
final class BoundariesOfNews {
    private static final String BY_ITSELF = "While it is there, not caught, and the period P is not 0, news is given by itself";
    private static final String CAUGHT = "The evader is caught in a turn if a searcher is at its new node then, or if it goes "
        + "along an edge";
    private static final String STAYS_CAUGHT = "(Once it is caught, it stays so, and its order is its node.)";
    private final Cases c;

    BoundariesOfNews(Cases cases) {
        c = cases;
    }

    void run() {
        beliefAfter();
        latestEightAreKept();
        tell();
        tellIsRefused();
        tellGoesOverLaterTurns();
        turn();
        turnAndTheBelief();
        turnLimit();
        turnCatches();
        hide();
        flee();
        setNews();
        newsByPeriod();
        newsByDelay();
        newsIfKeptAndHidden();
        newsOfWhereItWas();
        evader();
    }

    private void beliefAfter() {
        c.run(10, "Returns a belief that is kept", "each its own", Runs.PATH6 + "tell(0,0) turn()*5 "
            + "beliefAfter(0)=1 beliefAfter(1)=3 beliefAfter(2)=7 beliefAfter(3)=15 beliefAfter(4)=31 beliefAfter(5)=63");
        c.run(10, "`turn`: a turn", "0 and t, and no further",
            "beliefAfter(0)=15 beliefAfter(1)=INVALID turn() beliefAfter(0)=15 beliefAfter(1)=15 beliefAfter(2)=INVALID "
                + "beliefAfter(-1)=INVALID");
        c.run(10, "Returns the belief after this turn", "also where a ring of eight has begun anew",
            Runs.PATH6 + "tell(0,0) turn()*8 tell(8,0)=1 turn()*3 beliefAfter(3)=MISSING beliefAfter(4)=31 beliefAfter(5)=63 "
            + "beliefAfter(7)=63 beliefAfter(8)=1 beliefAfter(9)=3 beliefAfter(10)=7 beliefAfter(11)=15 beliefAfter(12)=INVALID");
        c.refused(10, "INVALID_ARGUMENT if turn is negative or greater than t", "turn 2", Runs.BUSY, "beliefAfter(-1)=INVALID",
            "beliefAfter(3)=INVALID", "beliefAfter(LEAST)=INVALID", "beliefAfter(MOST)=INVALID");
        c.refused(10, "INVALID_ARGUMENT if turn is negative or greater than t", "turn 9", Runs.FULL, "beliefAfter(-1)=INVALID",
            "beliefAfter(-7)=INVALID", "beliefAfter(-8)=INVALID", "beliefAfter(10)=INVALID");
        c.refused(10, "NOT_FOUND if it is not kept", "turn 9", Runs.FULL, "beliefAfter(0)=MISSING", "beliefAfter(1)=MISSING");
        c.run(10, "NOT_FOUND if it is not kept", "the eighth and the ninth",
            Runs.FULL + "count(3)=9 beliefAfter(1)=MISSING beliefAfter(2)=22 beliefAfter(9)=22 beliefAfter(10)=INVALID");
        c.run(10, "INVALID_ARGUMENT if turn is negative or greater than t", "after undo t is smaller",
            "turn()*2 beliefAfter(2)=15 undo() beliefAfter(2)=INVALID beliefAfter(1)=15");
    }

    private void latestEightAreKept() {
        String sentence = "Of the beliefs the latest 8 are kept, the present one and those after the last seven turns";
        c.run(10, sentence, "seven turns and eight",
            "turn()*7 count(4)=8 beliefAfter(0)=15 turn() count(4)=8 beliefAfter(0)=MISSING beliefAfter(1)=15");
        c.run(10, sentence, "sixteen turns",
            "turn()*16 count(4)=8 beliefAfter(8)=MISSING beliefAfter(9)=15 beliefAfter(0)=MISSING beliefAfter(16)=15");
        c.run(10, sentence, "all eight as they were", Runs.PATH6 + "tell(0,0)=1 turn()*6 tell(6,0)=1 turn()=3 beliefAfter(0)=1 "
            + "beliefAfter(1)=3 beliefAfter(2)=7 beliefAfter(3)=15 beliefAfter(4)=31 beliefAfter(5)=63 beliefAfter(6)=1");
        c.run(10, sentence, "fewer since release", "turn()*5 release() count(4)=1 beliefAfter(4)=MISSING beliefAfter(5)=15 "
            + "turn() count(4)=2 beliefAfter(5)=15 beliefAfter(4)=MISSING");
        c.run(10, sentence, "fewer since lay", "turn()*9 lay() count(4)=1 beliefAfter(8)=MISSING beliefAfter(9)=15 turn()*8 "
            + "count(4)=8 beliefAfter(9)=MISSING beliefAfter(10)=15");
        c.run(10, sentence, "fewer since reset",
            "turn()*9 reset(4) count(4)=1 beliefAfter(0)=15 turn() count(4)=2 beliefAfter(0)=15");
        c.run(10, sentence, "an undone turn brings the oldest back",
            "put(0) turn()*8 beliefAfter(0)=MISSING undo() beliefAfter(0)=14 count(4)=8 beliefAfter(8)=INVALID");
    }

    private void tell() {
        c.run(11, "`turn`: a turn, 0 to t", "0, t and no further",
            Runs.PATH4 + "turn()*2 tell(0,0)=7 undo() tell(2,0)=1 undo() tell(3,0)=INVALID tell(-1,0)=INVALID belief()=15");
        c.run(11, "`node`: a node", "first and last of 2", "reset(2) tell(0,0)=1 undo() tell(0,1)=2 tell(0,2)=INVALID");
        c.run(11, "`node`: a node", "first and last of 6", "reset(6) tell(0,0)=1 undo() tell(0,5)=32 tell(0,6)=INVALID");
        c.run(11, "Tells news", "twice the same", Runs.PATH4 + "turn() tell(0,1)=7 tell(0,1)=7 beliefAfter(0)=2");
        c.run(11, "News says at which node the evader was after an earlier turn, or now.", "now, with several kept",
            Runs.PATH4 + "turn()*3 tell(3,2)=4 beliefAfter(2)=15 beliefAfter(3)=4");
        c.run(11, "News says at which node the evader was after an earlier turn, or now.", "the earliest of eight",
            Runs.PATH6 + "turn()*7 tell(0,0)=63 beliefAfter(0)=1 beliefAfter(1)=3 beliefAfter(4)=31 beliefAfter(5)=63 "
                + "beliefAfter(7)=63");
        c.run(11, "Returns the present belief then", "not the one of that turn", Runs.PATH4
            + "turn() tell(0,0)=3 beliefAfter(0)=1 belief()=3");
        c.run(11, "Returns the present belief then", "empty, if no way leads from there to where it can be",
            Runs.PATH6 + "turn() tell(1,0)=1 tell(0,5)=0 belief()=0 beliefAfter(0)=32");
    }

    private void tellIsRefused() {
        String out = "INVALID_ARGUMENT if an argument is out of range";
        c.refused(11, out, "turn 2 of 5 nodes", Runs.BUSY, "tell(-1,3)=INVALID", "tell(3,3)=INVALID", "tell(LEAST,3)=INVALID",
            "tell(MOST,3)=INVALID", "tell(2,-1)=INVALID", "tell(2,5)=INVALID", "tell(2,LEAST)=INVALID", "tell(2,MOST)=INVALID");
        c.refused(11, out, "turn 9 of 6 nodes", Runs.FULL, "tell(-1,1)=INVALID", "tell(10,1)=INVALID", "tell(9,6)=INVALID",
            "tell(9,-1)=INVALID");
        String without = "NOT_POSSIBLE if the belief after this turn is kept, but does not contain node";
        c.refused(11, without, "a searcher's node, now and then", Runs.PATH4 + "put(0) turn() ", "tell(0,0)=IMPOSSIBLE",
            "tell(1,0)=IMPOSSIBLE");
        c.refused(11, without, "the earliest that is kept", Runs.FULL, "tell(2,0)=IMPOSSIBLE", "tell(9,3)=IMPOSSIBLE",
            "tell(9,5)=IMPOSSIBLE");
        c.run(11, without, "not any more in the present one, but then", Runs.PATH4 + "put(0) order(0,1) turn()=12 tell(0,1)=4");
        c.run(11, without, "in the present one, but not then", Runs.RING4 + "put(0) order(0,1) turn()=13 tell(0,0)=IMPOSSIBLE");
        c.refused(11, without, "an empty belief", "reset(2) put(0) put(1) ", "tell(0,0)=IMPOSSIBLE", "tell(0,1)=IMPOSSIBLE");
        c.refused(11, "If the node was not in the belief, nothing becomes different", "known to be elsewhere",
            Runs.PATH6 + "turn() tell(0,0) ", "tell(0,1)=IMPOSSIBLE", "tell(1,2)=IMPOSSIBLE", "tell(1,5)=IMPOSSIBLE");
        String gone = "NOT_FOUND if it is not kept";
        c.refused(11, gone, "the ninth", Runs.FULL, "tell(1,1)=MISSING", "tell(0,1)=MISSING");
        c.refused(11, gone, "before release", "turn()*3 release() ", "tell(2,0)=MISSING", "tell(0,3)=MISSING");
        c.run(11, gone, "the eighth is kept, the ninth is not", Runs.PATH4
            + "turn()*8 tell(0,0)=MISSING tell(1,0)=15 beliefAfter(1)=1 beliefAfter(2)=3");
        c.run(11, gone, "not kept, though it did not contain the node when it was",
            "put(0) turn()*8 tell(0,0)=MISSING tell(1,0)=IMPOSSIBLE");
        c.refused(11, "If several errors apply to a call", "not kept, and no such node", Runs.FULL, "tell(0,6)=INVALID",
            "tell(0,-1)=INVALID");
        c.refused(11, "If several errors apply to a call", "no such turn, and a node that is not in it", Runs.FULL,
            "tell(10,0)=INVALID", "tell(-1,0)=INVALID");
    }

    private void tellGoesOverLaterTurns() {
        c.run(11, "News for a turn says that the belief after it has only this node, if it was in it", "those before stay",
            Runs.PATH4 + "turn()*2 tell(1,0)=3 beliefAfter(0)=15 beliefAfter(1)=1 beliefAfter(2)=3");
        String anew = "from this, the beliefs after all later turns up to now are computed anew";
        c.run(11, anew, "an edge that was away for one turn",
            Runs.PATH4 + "turn() link(0,1,0) turn() link(0,1,1) turn() tell(1,0)=3 beliefAfter(2)=1 beliefAfter(3)=3");
        c.run(11, anew, "an edge that was there for one turn",
            "link(0,1,1) turn() link(0,1,0) turn() tell(0,0)=3 beliefAfter(1)=3");
        c.run(11, anew, "an edge that was there eight turns before",
            "link(0,1,1) turn()*8 link(0,1,0) turn()*8 tell(9,0)=1 beliefAfter(10)=1 beliefAfter(16)=1");
        c.run(11, anew, "the moves of a searcher that has left since",
            Runs.PATH4 + "put(0) order(0,1) turn()=12 order(0,2) turn()=8 leave() tell(0,1)=8 beliefAfter(1)=4");
        c.run(11, anew, "present orders do not count", Runs.PATH4 + "put(0) turn() order(0,1) tell(0,1)=6");
        c.run(11, anew, "over the place where a ring of eight begins anew", Runs.PATH6
            + "turn()*11 tell(3,0)=MISSING tell(4,0)=63 "
            + "beliefAfter(4)=1 beliefAfter(5)=3 beliefAfter(6)=7 beliefAfter(7)=15 beliefAfter(8)=31 beliefAfter(9)=63");
        String remain = "of these, only the nodes that were in them before remain.";
        c.run(11, remain, "later news is not forgotten", Runs.PATH4
            + "turn()*2 tell(2,0)=1 tell(0,2)=1 beliefAfter(1)=14 beliefAfter(2)=1");
        c.run(11, remain, "nor is a searcher that was put", Runs.PATH4 + "turn() put(2) tell(0,1)=3");
        c.run(11, remain, "nor news in between", Runs.PATH6
            + "turn()*2 tell(1,1)=7 tell(0,0)=7 beliefAfter(1)=2 beliefAfter(2)=7");
    }

    private void turn() {
        c.run(12, "Makes a turn", "nobody there", "turn()=15 count(3)=1 count(4)=2 belief()=15");
        String sentence = "In a turn it grows by 1, all searchers go where their orders say, and the evader goes, at the same "
            + "time";
        c.run(12, sentence, "all three searchers, two of them across one edge",
            Runs.PATH4 + "put(1) put(2) put(3) order(0,2) order(1,1) order(2,2) turn() count(3)=1 searcher(0,0)=2 "
                + "searcher(1,0)=1 searcher(2,0)=2");
        c.run(12, sentence, "the evader stays or goes to a neighbour", Runs.PATH4
            + "hide(0) turn() evader(0)=0 flee(1) turn() evader(0)=1 turn() evader(0)=1");
        c.run(12, "When a searcher is put on a node, and after each turn, its order is the node at which it is.",
            "after a turn",
            Runs.PATH4 + "put(1) put(1) put(1) order(0,2) order(2,0) turn() searcher(0,1)=2 searcher(1,1)=1 searcher(2,1)=0");
        c.run(12, "Returns the belief then (behind news that is given by itself)", "with and without news",
            Runs.PATH4 + "hide(0) turn()=15 setNews(1,0) ahead()=15 turn()=1 belief()=1");
    }

    private void turnAndTheBelief() {
        String sentence = "After a turn, a node is in the belief if an evader could have come there, without being caught in "
            + "this turn";
        c.run(12, sentence, "it can stay", "turn()=15 tell(1,2)=4 turn()=4");
        c.run(12, sentence, "one edge in a turn, not two", Runs.PATH4 + "tell(0,0)=1 turn()=3 turn()=7 turn()=15");
        c.run(12, sentence, "not from a node that is not in it", Runs.PATH4 + "tell(0,3)=8 turn()=12");
        c.run(12, sentence, "not to where a searcher stays", Runs.PATH4 + "put(1) turn()=13 turn()=13");
        c.run(12, sentence, "not to where a searcher goes, and not against it", "reset(3) " + Runs.links("01 12")
            + "put(0) order(0,1) turn()=4");
        c.run(12, sentence, "to where a searcher was, along another edge", "reset(3) " + Runs.links("01 12 02")
            + "put(0) order(0,1) turn()=5");
        c.run(12, sentence, "behind a searcher that goes away",
            "reset(3) " + Runs.links("01 12") + "put(1) order(0,0) turn()=6");
        c.run(12, sentence, "one of two searchers at a node stays", "reset(3) " + Runs.links("01 12 02")
            + "put(0) put(0) order(0,1) turn()=4");
        c.run(12, sentence, "one of two searchers at a node goes, the second one", "reset(3) " + Runs.links("01 12 02")
            + "put(0) put(0) order(1,1) turn()=4");
        c.run(12, sentence, "the third one counts too", Runs.PATH4 + "put(0) put(0) put(3) order(0,1) order(2,2) turn()=0");
        c.run(12, sentence, "empty stays empty", Runs.PATH4
            + "put(0) put(3) order(0,1) order(1,2) turn()=0 leave() leave() turn()=0");
        c.run(12, sentence, "full stays full", "reset(6) text(" + Runs.ALL_EDGES + ") lay() turn()=63");
    }

    private void turnLimit() {
        String sentence = "LIMIT_REACHED if t is 10000";
        c.longRun(12, sentence, "9999 and 10000",
            "turn()*9999 count(3)=9999 turn()=15 count(3)=10000 turn()=LIMIT count(3)=10000 "
            + "count(7)=5 beliefAfter(10000)=15 beliefAfter(9993)=15 beliefAfter(9992)=MISSING beliefAfter(10001)=INVALID "
                + "tell(10000,3)=8");
        c.longRun(12, sentence, "an undone turn can be made again",
            "turn()*10000 undo()=4 count(3)=9999 turn()=15 turn()=LIMIT");
        c.longRun(12, sentence, "after reset there is time again", "turn()*10000 turn()=LIMIT reset(4)=4 turn()=15 count(3)=1");
        c.refused(12, sentence, "nobody goes", Runs.PATH4 + "put(0) hide(2) setNews(1,0) turn()*10000 order(0,1) flee(3) ",
            "turn()=LIMIT");
        c.longRun(12, sentence, "what is no turn goes on", Runs.PATH4
            + "turn()*10000 put(0)=0 order(0,1)=0 ahead()=12 hide(3)=1 evader(4)=10000 turn()=LIMIT");
    }

    private void turnCatches() {
        c.run(12, CAUGHT, "a searcher comes to where it stays", Runs.PATH4
            + "put(1) hide(2) order(0,2) turn() evader(2)=1 evader(3)=1 evader(0)=2");
        c.run(12, CAUGHT, "it comes to where a searcher stays", Runs.PATH4
            + "put(1) hide(2) flee(1) turn() evader(2)=1 evader(0)=1");
        c.run(12, CAUGHT, "both come to a third node", Runs.PATH4
            + "put(1) hide(3) order(0,2) flee(2) turn() evader(2)=1 evader(0)=2");
        c.run(12, CAUGHT, "they meet on the edge", Runs.PATH4
            + "put(1) hide(2) order(0,2) flee(1) turn() evader(2)=1 evader(0)=1");
        c.run(12, CAUGHT, "both go in the same direction", Runs.PATH4
            + "put(0) hide(1) order(0,1) flee(2) turn() evader(2)=0 evader(0)=2 evader(3)=0");
        c.run(12, CAUGHT, "it comes to where a searcher was, along another edge",
            "reset(3) " + Runs.links("01 12 02") + "put(0) hide(2) order(0,1) flee(0) turn() evader(2)=0 evader(0)=0");
        c.run(12, CAUGHT, "both stay, next to one another", Runs.PATH4 + "put(1) hide(2) turn() evader(2)=0 evader(0)=2");
        c.run(12, CAUGHT, "the second searcher", Runs.PATH4 + "put(0) put(1) hide(2) order(1,2) flee(1) turn() evader(2)=1");
        c.run(12, CAUGHT, "the third searcher", Runs.PATH4 + "put(0) put(0) put(3) hide(2) order(2,2) turn() evader(2)=1");
        c.run(12, CAUGHT, "a searcher that has left does not", Runs.PATH4
            + "put(0) put(1) hide(2) order(1,2) leave() turn() evader(2)=0");
        c.run(12, STAYS_CAUGHT, "when all searchers have left",
            Runs.PATH4 + "put(1) hide(2) order(0,2) flee(3) order(0,1) flee(1) turn() evader(2)=1 leave() turn()*3 evader(2)=1 "
                + "evader(3)=1 evader(0)=1 evader(1)=1");
        c.run(12, STAYS_CAUGHT, "caught on an edge it is where it went, and has no order", Runs.PATH4
            + "put(1) hide(2) order(0,2) flee(1) turn() evader(0)=1 evader(1)=1 flee(1)=IMPOSSIBLE");
        c.run(12, STAYS_CAUGHT, "in a later turn it is not caught again", Runs.PATH4
            + "put(1) hide(2) order(0,2) turn() turn() evader(3)=1");
        c.run(12, STAYS_CAUGHT, "lay and release leave it caught", Runs.PATH4
            + "hide(2) put(2) lay()=0 release()=11 evader(2)=1 evader(0)=2 evader(1)=2");
        c.run(12, "It is caught as described.", "hidden next to a searcher it is free until it meets one",
            Runs.PATH4 + "put(1) hide(2) evader(2)=0 turn() evader(2)=0 flee(1) evader(2)=0 turn() evader(2)=1 evader(3)=2");
    }

    private void hide() {
        c.run(17, "`node`: a node", "first and last of 2",
            "reset(2) hide(0)=1 hide(1)=1 evader(0)=1 hide(2)=INVALID evader(0)=1");
        c.run(17, "`node`: a node", "first and last of 6", "reset(6) hide(0)=1 hide(5)=1 evader(0)=5 hide(6)=INVALID");
        c.refused(17, "INVALID_ARGUMENT", "busy", Runs.BUSY, "hide(-1)=INVALID", "hide(5)=INVALID", "hide(LEAST)=INVALID",
            "hide(MOST)=INVALID");
        c.refused(17, "INVALID_ARGUMENT", "nobody hidden", "", "hide(-1)=INVALID", "hide(4)=INVALID");
        String taken = "NOT_POSSIBLE if there is a searcher at the node";
        c.refused(17, taken, "the first, the second, the third", Runs.FULL, "hide(0)=IMPOSSIBLE", "hide(5)=IMPOSSIBLE",
            "hide(3)=IMPOSSIBLE");
        c.refused(17, taken, "nobody hidden", "put(2) ", "hide(2)=IMPOSSIBLE");
        c.refused(17, taken, "no free node", "reset(2) put(0) put(1) ", "hide(0)=IMPOSSIBLE", "hide(1)=IMPOSSIBLE");
        c.run(17, taken, "where one was, and where one will be", Runs.PATH4
            + "put(0) order(0,1) hide(1)=1 turn() hide(0)=0 hide(1)=IMPOSSIBLE");
        c.run(17, taken, "where one was that has left", "put(0) leave() hide(0)=0 evader(0)=0 evader(2)=0");
        c.run(17, "Returns 1 if the belief contains the node, otherwise 0", "both",
            "tell(0,2)=4 hide(2)=1 hide(1)=0 evader(0)=1 belief()=4");
        c.run(17, "Hides an evader (in place of one that there is).", "of a free one with another order", Runs.PATH4
            + "hide(1) flee(2) hide(3)=1 evader(0)=3 evader(1)=3");
        c.run(17, "Hides an evader (in place of one that there is).", "of a caught one",
            "turn() hide(1) put(1) evader(2)=1 turn() hide(3)=1 evader(0)=3 evader(1)=3 evader(2)=0 evader(3)=0 evader(4)=2 "
                + "flee(3)=3");
        c.run(17, "Hides an evader (in place of one that there is).", "at the same node",
            "turn() hide(1) turn() hide(1)=1 evader(4)=2");
        c.run(17, "It is hidden from this turn on", "turn 0 and later",
            "hide(1) evader(4)=0 turn()*3 evader(4)=0 hide(1) evader(4)=3");
        c.run(17, "There can be a hidden evader, at a node", "none, then one", "evader(0)=MISSING hide(3)=1 evader(0)=3");
        c.run(17, "it is its node when it is hidden, and after each turn.", "hidden, and after a turn",
            Runs.PATH4 + "hide(1) evader(1)=1 flee(2) evader(1)=2 turn() evader(0)=2 evader(1)=2 turn() evader(0)=2");
    }

    private void flee() {
        c.run(18, "`node`: a node", "first and last of 2", "reset(2) link(0,1,1) hide(0) flee(1)=0 flee(0)=1 flee(2)=INVALID");
        c.run(18, "`node`: a node", "first and last of 6", "reset(6) link(0,5,1) hide(0) flee(5)=0 flee(0)=5 flee(6)=INVALID");
        c.refused(18, "INVALID_ARGUMENT", "busy", Runs.BUSY, "flee(-1)=INVALID", "flee(5)=INVALID", "flee(LEAST)=INVALID",
            "flee(MOST)=INVALID");
        c.run(18, "Returns the node of its previous order", "not its node", Runs.PATH4
            + "hide(1) flee(2)=1 flee(0)=2 flee(0)=0 flee(1)=0");
        String not = "NOT_POSSIBLE if there is none, it is caught, or node is neither its node nor a neighbour of it";
        c.refused(18, not, "there is none", Runs.PATH4, "flee(0)=IMPOSSIBLE", "flee(3)=IMPOSSIBLE");
        c.refused(18, not, "there is none since reset", Runs.BUSY + "reset(5) ", "flee(0)=IMPOSSIBLE", "flee(4)=IMPOSSIBLE");
        c.refused(18, not, "it is caught", Runs.FULL, "flee(3)=IMPOSSIBLE", "flee(0)=IMPOSSIBLE");
        c.refused(18, not, "too far", Runs.BUSY, "flee(0)=IMPOSSIBLE", "flee(1)=IMPOSSIBLE", "flee(2)=IMPOSSIBLE");
        c.run(18, not, "its node, a neighbour, a neighbour's neighbour", Runs.PATH4
            + "hide(0) flee(0)=0 flee(1)=0 flee(2)=IMPOSSIBLE evader(1)=1");
        c.run(18, not, "caught and hidden again", Runs.PATH4 + "hide(1) put(1) flee(1)=IMPOSSIBLE hide(2)=1 flee(3)=2");
        c.refused(18, "If several errors apply to a call", "no evader, and no such node", Runs.PATH4, "flee(4)=INVALID",
            "flee(-1)=INVALID");
        c.refused(18, "If several errors apply to a call", "caught, and no such node", Runs.FULL, "flee(6)=INVALID",
            "flee(-1)=INVALID");
        c.run(18, "Gives the hidden evader an order", "the last one counts", Runs.PATH4
            + "hide(1) flee(0) flee(2) turn() evader(0)=2");
        String order = "It has an order, too, which is its node or a neighbour of it";
        c.run(18, order, "to a searcher's node too", Runs.PATH4 + "put(2) hide(1) flee(2)=1 evader(1)=2 evader(2)=0");
        c.run(18, order, "its node, a neighbour, no other", Runs.PATH4
            + "hide(1) evader(1)=1 flee(3)=IMPOSSIBLE evader(1)=1 flee(2)=1 flee(3)=IMPOSSIBLE evader(1)=2 flee(1)=2 evader(1)=1");
    }

    private void setNews() {
        c.run(19, "`period`: 0 to 9", "least and greatest",
            "setNews(0,3)=0 count(5)=0 setNews(9,3)=3 count(5)=9 setNews(0,0)=93");
        c.run(19, "`delay`: 0 to 7", "least and greatest",
            "setNews(3,0)=0 count(6)=0 setNews(3,7)=30 count(6)=7 setNews(0,0)=37");
        c.run(19, "Sets the period and the delay", "both at once", "setNews(4,6)=0 count(5)=4 count(6)=6");
        c.run(19, "Returns 10 times the previous period plus the previous delay", "greatest and least",
            "setNews(9,7)=0 setNews(0,0)=97 setNews(0,0)=0");
        String out = "INVALID_ARGUMENT if an argument is out of range";
        String[] wrong = {"setNews(-1,0)=INVALID", "setNews(10,0)=INVALID", "setNews(0,-1)=INVALID", "setNews(0,8)=INVALID",
            "setNews(LEAST,0)=INVALID",
            "setNews(MOST,0)=INVALID", "setNews(0,LEAST)=INVALID", "setNews(0,MOST)=INVALID", "setNews(10,8)=INVALID",
                "setNews(9,8)=INVALID", "setNews(10,7)=INVALID"};
        c.refused(19, out, "busy", Runs.BUSY, wrong);
        c.refused(19, out, "new", "", wrong);
    }

    private void newsByPeriod() {
        c.run(19, BY_ITSELF, "period 0", Runs.PATH6
            + "hide(0) turn()=63 setNews(0,0) turn()=63 setNews(0,7) turn()*7 belief()=63 beliefAfter(2)=63");
        c.run(19, BY_ITSELF, "period 1", Runs.PATH6 + "hide(0) setNews(1,0) turn()=1 turn()=1 turn()=1");
        c.run(19, BY_ITSELF, "period 2", Runs.PATH6 + "hide(0) setNews(2,0) turn()=63 turn()=1 turn()=3 turn()=1");
        c.run(19, BY_ITSELF, "period 9", Runs.PATH6
            + "hide(0) setNews(9,0) turn()*7 turn()=63 turn()=1 turn()*7 turn()=63 turn()=1");
        c.run(19, BY_ITSELF, "it counts t, not the turns since it was set", Runs.PATH6
            + "turn() hide(0) setNews(2,0) turn()=1 turn()=3");
        c.run(19, BY_ITSELF, "a period that is 0 again", Runs.PATH6
            + "hide(0) setNews(1,0) turn()=1 setNews(0,0) turn()=3 turn()=7");
        c.run(19, BY_ITSELF, "after turns alone", Runs.PATH6
            + "hide(0) setNews(1,0) belief()=63 release()=63 put(5) belief()=31");
    }

    private void newsByDelay() {
        c.run(19, BY_ITSELF, "delay 1, t is 1", Runs.PATH6 + "hide(0) setNews(1,1) turn()=3 beliefAfter(0)=1");
        c.run(19, BY_ITSELF, "delay 2, t is 1 and 2", Runs.PATH6
            + "hide(0) setNews(1,2) turn()=63 beliefAfter(0)=63 turn()=7 beliefAfter(0)=1");
        c.run(19, BY_ITSELF, "delay 7, t is 6 and 7", Runs.PATH6 + "hide(0) setNews(1,7) turn()*6 beliefAfter(0)=63 turn()=63 "
            + "beliefAfter(0)=1 beliefAfter(1)=3 beliefAfter(2)=7 beliefAfter(4)=31 beliefAfter(5)=63");
        c.run(19, BY_ITSELF, "delay 7, the earliest of eight", Runs.PATH6 + "hide(0) turn()*9 setNews(1,7) turn()=63 "
            + "beliefAfter(3)=1 beliefAfter(4)=3 beliefAfter(7)=31 beliefAfter(2)=MISSING");
        c.run(19, BY_ITSELF, "t is a multiple and less than the delay",
            Runs.PATH6 + "hide(0) setNews(2,3) turn()*2 belief()=63 "
            + "beliefAfter(0)=63 turn()=63 turn()=15 beliefAfter(1)=1 beliefAfter(0)=63");
    }

    private void newsIfKeptAndHidden() {
        c.run(19, BY_ITSELF, "that belief is not kept, and then it is", Runs.PATH6
            + "hide(0) setNews(1,2) turn()*2 release()=63 turn()=63 turn()=7");
        c.run(19, BY_ITSELF, "not kept since lay",
            "reset(6) text(0-1;1-2;2-3;3-4;4-5;) lay() hide(0) setNews(1,1) turn()=3 lay()=5 turn()=3 beliefAfter(1)=1");
        c.run(19, BY_ITSELF, "not kept since lay, with a longer delay",
            "reset(6) text(0-1;1-2;2-3;3-4;4-5;) lay() hide(0) setNews(1,2) turn() lay()=5 turn()=63 turn()=7");
        c.run(19, BY_ITSELF, "hidden just then", Runs.PATH6
            + "setNews(1,2) turn()*2 hide(5) turn()=63 beliefAfter(1)=63 turn()=56 beliefAfter(2)=32");
        c.run(19, BY_ITSELF, "hidden at turn 0", Runs.PATH6
            + "setNews(1,3) hide(5) turn()*2 belief()=63 turn()=60 beliefAfter(0)=32");
        c.run(19, BY_ITSELF, "hidden now, no delay", Runs.PATH6 + "setNews(1,0) turn()*3 hide(5) turn()=32");
        c.run(19, BY_ITSELF, "another one was hidden then", Runs.PATH6
            + "setNews(1,2) hide(0) turn()=63 hide(5)=1 turn()=63 beliefAfter(0)=63 turn()=56 beliefAfter(1)=32");
        c.run(19, BY_ITSELF, "nobody is there", Runs.PATH6 + "setNews(1,0) turn()=63 hide(0) undo() turn()=63");
        c.run(19, BY_ITSELF, "caught by put", Runs.PATH6 + "setNews(1,1) hide(0) turn()=3 put(0) turn()=6 beliefAfter(1)=2");
        c.run(19, BY_ITSELF, "caught in this turn", Runs.PATH4
            + "hide(2) put(1) setNews(1,1) order(0,2) turn()=11 evader(2)=1 beliefAfter(0)=13");
        c.run(19, BY_ITSELF, "just not caught", Runs.PATH4
            + "hide(2) put(1) setNews(1,1) turn()=12 evader(2)=0 beliefAfter(0)=4");
        c.run(12, "If the node was not in the belief, nothing becomes different", "until the belief has it",
            Runs.PATH6 + "tell(0,0)=1 hide(5)=0 setNews(1,0) turn()=3 turn()=7 turn()=15 turn()=31 turn()=32 beliefAfter(4)=31 "
                + "count(4)=6");
    }

    private void newsOfWhereItWas() {
        c.run(19, BY_ITSELF, "not where it is", Runs.PATH6
            + "hide(0) setNews(1,1) flee(1) turn()=3 flee(2) turn()=7 beliefAfter(1)=2 evader(0)=2");
        c.run(19, BY_ITSELF, "where a ring of eight has begun anew", Runs.PATH6
            + "hide(0) flee(1) turn() flee(2) turn() flee(3) turn() flee(4) turn() flee(5) turn() "
            + "turn()*4 setNews(1,7) turn()=63 beliefAfter(3)=8 beliefAfter(4)=28 beliefAfter(5)=62 beliefAfter(6)=63");
        c.run(19, BY_ITSELF, "after undo the places are those of before", Runs.PATH6
            + "hide(0) turn()*8 flee(1) turn()*4 undo()*5 setNews(1,7) turn()=63 beliefAfter(2)=1 beliefAfter(3)=3");
        c.run(19, BY_ITSELF, "it is a part of the turn, and undone with it", Runs.PATH6
            + "hide(0) setNews(1,0) turn()=1 undo() belief()=63 count(4)=1");
    }

    private void evader() {
        c.run(20, "Tells about the hidden evader", "all five", Runs.PATH4
            + "turn()*2 hide(2) flee(3) evader(0)=2 evader(1)=3 evader(2)=0 evader(3)=0 evader(4)=2");
        c.run(20, "`what`: 0: its node (if it was caught in a turn, the one to which it went then)", "caught on an edge",
            Runs.PATH4 + "put(1) hide(2) evader(0)=2 order(0,2) flee(1) turn() evader(0)=1");
        c.run(20, "`what`: 0: its node (if it was caught in a turn, the one to which it went then)", "first and last node",
            "reset(6) hide(0) evader(0)=0 hide(5) evader(0)=5");
        c.run(20, "`what`: 0: its node (if it was caught in a turn, the one to which it went then)", "not yet where it will go",
            Runs.PATH4 + "hide(2) flee(3) evader(0)=2 turn() evader(0)=3 flee(2) put(3) evader(0)=3");
        c.run(20, "1: the node of its order", "other than its node", Runs.PATH4 + "hide(0) flee(1) evader(1)=1 evader(0)=0");
        c.run(20, "2: 1 if it is caught, otherwise 0", "both", "hide(0) evader(2)=0 put(0) evader(2)=1 undo() evader(2)=0");
        c.run(20, "3: t when it was caught, 0 if it is not", "never, at turn 0, in turn 1, later", Runs.PATH4
            + "turn() hide(0) evader(3)=0 reset(4) hide(0) put(0) evader(3)=0 evader(2)=1 reset(2) link(0,1,1) put(0) hide(1) "
                + "order(0,1) turn() evader(3)=1 turn()*2 evader(3)=1");
        c.run(20, "4: t when it was hidden", "turn 0, later, caught",
            "hide(0) evader(4)=0 turn()*2 hide(1) evader(4)=2 turn() evader(4)=2 put(1) evader(4)=2");
        c.run(20, "Returns the number", "least and greatest what", "turn() hide(3) evader(0)=3 evader(4)=1");
        c.refused(20, "INVALID_ARGUMENT if what is out of range", "busy", Runs.BUSY, "evader(-1)=INVALID", "evader(5)=INVALID",
            "evader(LEAST)=INVALID", "evader(MOST)=INVALID");
        c.refused(20, "NOT_FOUND if there is none", "new", "", "evader(0)=MISSING", "evader(1)=MISSING", "evader(2)=MISSING",
            "evader(3)=MISSING", "evader(4)=MISSING");
        c.run(20, "NOT_FOUND if there is none", "after reset, and when hiding is undone",
            "hide(1) reset(4) evader(0)=MISSING undo() evader(0)=1 undo() evader(0)=MISSING");
        c.refused(20, "If several errors apply to a call", "none, and no such number", "", "evader(5)=INVALID",
            "evader(-1)=INVALID");
    }
}
