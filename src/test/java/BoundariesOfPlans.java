/** Promises 21 to 27: what could be. */
final class BoundariesOfPlans {
    private static final String PLAN = "A plan is a sequence of turns, with orders for all searchers in each of them, after "
        + "which the belief is empty";
    private static final String EMPTY = "(If the belief is empty already, it has no turns.)";
    private static final String EMPTY_BELIEF = "reset(2) put(0) put(1) ";
    private final Cases c;

    BoundariesOfPlans(Cases cases) {
        c = cases;
    }

    void run() {
        nothingChanges();
        nothingChangesByOneCall();
        ahead();
        planTurns();
        plans();
        planOrder();
        planOrderOfSeveral();
        planMoves();
        settles();
        leastSearchers();
        bestTurns();
    }

    private void nothingChanges() {
        String[] calls = {"ahead()", "planTurns()", "planOrder(0,0)", "planMoves()", "settles()", "leastSearchers()",
            "bestTurns(1)", "bestTurns(2)", "bestTurns(3)"};
        for (int i = 0; i < calls.length; i++) {
            int promise = Math.min(21 + i, 27);
            c.same(promise, "nothing changes", "busy, " + calls[i], Runs.BUSY + calls[i], Runs.BUSY);
            c.same(promise, "nothing changes", "full, " + calls[i], Runs.FULL + calls[i], Runs.FULL);
        }
    }

    /** What the calls above show is seen by other calls here, since a Sight itself asks what could be. */
    private void nothingChangesByOneCall() {
        String before = "text(0-1;1-2;2-3;) lay() put(0) hide(3) tell(0,3) order(0,1) flee(2) setNews(2,1) ";
        String[] calls = {"ahead()=12", "planTurns()=3", "planOrder(0,0)=1", "planMoves()=3", "settles()=2",
            "leastSearchers()=1",
            "bestTurns(1)=3", "bestTurns(2)=1", "bestTurns(3)=1"};
        for (int i = 0; i < calls.length; i++) {
            int promise = Math.min(21 + i, 27);
            c.run(promise, "nothing changes", "neither state nor text, " + calls[i], before + calls[i]
                + " count(0)=4 count(1)=3 count(2)=1 count(3)=0 count(4)=1 count(5)=2 count(6)=1 count(7)=5 belief()=8 "
                + "beliefAfter(0)=8 searcher(0,0)=0 searcher(0,1)=1 evader(0)=3 evader(1)=2 evader(2)=0 evader(4)=0 "
                + "neighbours(1)=5 fault()=MISSING clearText()=12");
            c.run(promise, "nothing changes", "nor the history, " + calls[i], before + calls[i]
                + " undo()=4 count(5)=0 undo()=3 evader(1)=3 undo()=2 searcher(0,1)=0 undo()=1 belief()=14 undo()=0 "
                + "evader(0)=MISSING undo()=IMPOSSIBLE");
        }
    }

    private void ahead() {
        String sentence = "Returns the belief that there would be after a turn with the present orders, without any news";
        c.run(21, sentence, "no searchers", Runs.PATH4 + "tell(0,0)=1 ahead()=3 belief()=1 count(3)=0");
        c.run(21, sentence, "present orders", Runs.PATH4 + "put(0) ahead()=14 order(0,1) ahead()=12 order(0,0) ahead()=14");
        c.run(21, sentence, "all three",
            Runs.PATH4 + "put(0) put(0) put(3) order(1,1) ahead()=4 order(2,2) ahead()=0 turn()=0");
        c.run(21, "Returns the belief", "empty", EMPTY_BELIEF + "ahead()=0");
        c.run(21, sentence, "news would have come", Runs.PATH4 + "hide(0) setNews(1,0) ahead()=15 turn()=1 ahead()=3");
        c.longRun(21, sentence, "at the limit of t", Runs.PATH4
            + "tell(0,0) turn()*10000 tell(10000,0)=1 ahead()=3 turn()=LIMIT");
    }

    private void planTurns() {
        String sentence = "Returns the number of turns of the quickest plan";
        c.run(22, sentence, "one turn", "reset(2) link(0,1,1) put(0) planTurns()=1");
        c.run(22, sentence, "along a path, from its end and from within", Runs.PATH6
            + "put(0) planTurns()=5 leave() put(1) release() planTurns()=6 leave() put(2) release() planTurns()=7");
        c.run(22, "The quickest plan is the one with the fewest turns", "more searchers", Runs.PATH4
            + "put(0) planTurns()=3 put(3) planTurns()=1");
        c.run(22, "The quickest plan is the one with the fewest turns", "though it takes more moves", "reset(5) "
            + Runs.links("01 12 23 34") + "put(1) put(4) planTurns()=2 planMoves()=3");
        c.run(22, EMPTY, "with searchers", EMPTY_BELIEF + "planTurns()=0 planOrder(0,0)=MISSING planMoves()=0");
        c.run(22, EMPTY, "without", EMPTY_BELIEF + "leave() leave() planTurns()=0 planMoves()=0");
        String none = "NOT_FOUND if there is no plan";
        c.run(22, none, "no searchers", Runs.PATH4 + "planTurns()=MISSING tell(0,0)=1 planTurns()=MISSING");
        c.run(22, none, "one on a ring, and two", Runs.RING4 + "put(0) planTurns()=MISSING put(0) planTurns()=2");
        c.run(22, none, "no way there",
            "put(0) planTurns()=MISSING link(0,1,1) tell(0,1)=2 planTurns()=1 tell(0,1)=2 link(0,1,0) planTurns()=MISSING");
        c.run(22, none, "three on all edges of six nodes", "reset(6) text(" + Runs.ALL_EDGES
            + ") lay() put(0) put(1) put(2) planTurns()=MISSING");
    }

    private void plans() {
        c.run(22, PLAN, "news is not counted on", Runs.RING4
            + "put(0) hide(2) setNews(1,0) planTurns()=MISSING planMoves()=MISSING");
        c.run(22, PLAN, "the hidden evader is not known of", Runs.PATH4 + "put(0) hide(1) flee(0) planTurns()=3 planMoves()=3");
        c.run(22, PLAN, "not even next to a searcher", Runs.PATH4 + "put(1) hide(0) planTurns()=4 planMoves()=4");
        c.run(22, PLAN, "present orders do not count", Runs.PATH4
            + "put(0) order(0,1) planTurns()=3 planOrder(0,0)=1 planMoves()=3");
        c.run(22, PLAN, "of this belief", Runs.PATH4 + "put(0) tell(0,1)=2 planTurns()=3 put(2) planTurns()=1");
        c.longRun(22, PLAN, "they do not know the limit of t", "reset(3) " + Runs.links("01 12")
            + "turn()*10000 put(0) planTurns()=2 planOrder(0,0)=1 planOrder(1,0)=2 planOrder(2,0)=MISSING planMoves()=2");
        c.longRun(22, PLAN, "nor what is left to it", "reset(3) " + Runs.links("01 12")
            + "turn()*9999 put(0) planTurns()=2 planMoves()=2");
        c.run(22, PLAN, "a change is seen, and undo",
            Runs.PATH4 + "put(0) planTurns()=3 link(1,2,0) planTurns()=MISSING undo() "
            + "planTurns()=3 order(0,1) turn() planTurns()=2 undo() planTurns()=3");
    }

    private void planOrder() {
        c.run(23, "`turn`: 0 for its first turn, and so on", "first, last and none", Runs.PATH4
            + "put(0) planOrder(0,0)=1 planOrder(1,0)=2 planOrder(2,0)=3 planOrder(3,0)=MISSING");
        c.run(23, "`searcher`: number of the searcher", "first and last of 3", Runs.PATH4
            + "put(0) put(3) put(3) planTurns()=1 planOrder(0,0)=1 planOrder(0,1)=2 planOrder(0,2)=2 planOrder(0,3)=INVALID");
        c.run(23, "Returns an order of the quickest plan", "asked for before its number of turns", Runs.PATH4
            + "put(3) planOrder(2,0)=0 planOrder(0,0)=2 planTurns()=3");
        c.run(23, "Returns the node", "first and last",
            "reset(6) link(0,5,1) put(0) tell(0,5)=32 planOrder(0,0)=5 reset(6) link(0,5,1) put(5) tell(0,0)=1 planOrder(0,0)=0");
        String out = "INVALID_ARGUMENT if turn is negative or there is no such searcher";
        c.refused(23, out, "one searcher", Runs.PATH4 + "put(0) ", "planOrder(-1,0)=INVALID", "planOrder(LEAST,0)=INVALID",
            "planOrder(0,-1)=INVALID", "planOrder(0,1)=INVALID",
            "planOrder(0,LEAST)=INVALID", "planOrder(0,MOST)=INVALID");
        c.refused(23, out, "three searchers", Runs.FULL, "planOrder(0,3)=INVALID", "planOrder(0,-1)=INVALID",
            "planOrder(-1,2)=INVALID");
        c.refused(23, out, "no searchers", Runs.PATH4, "planOrder(0,0)=INVALID", "planOrder(0,-1)=INVALID");
        String none = "NOT_FOUND if there is no plan, or it has not so many turns";
        c.refused(23, none, "not so many turns", Runs.PATH4 + "put(0) ", "planOrder(3,0)=MISSING", "planOrder(4,0)=MISSING",
            "planOrder(MOST,0)=MISSING");
        c.refused(23, none, "no plan", Runs.RING4 + "put(0) ", "planOrder(0,0)=MISSING", "planOrder(1,0)=MISSING",
            "planOrder(MOST,0)=MISSING");
        c.refused(23, none, "no turns", EMPTY_BELIEF, "planOrder(0,0)=MISSING", "planOrder(0,1)=MISSING");
        c.refused(23, "If several errors apply to a call", "no plan", Runs.RING4 + "put(0) ", "planOrder(-1,0)=INVALID",
            "planOrder(0,1)=INVALID", "planOrder(9,1)=INVALID");
        c.refused(23, "If several errors apply to a call", "not so many turns, and no such searcher", Runs.PATH4 + "put(0) ",
            "planOrder(3,1)=INVALID", "planOrder(MOST,-1)=INVALID");
    }

    private void planOrderOfSeveral() {
        String sentence = "of several the one in whose first turn searcher 0 goes to the lowest node";
        c.run(23, sentence, "searcher 0 first", Runs.RING4
            + "put(0) put(0) planOrder(0,0)=0 planOrder(0,1)=1 planOrder(1,0)=3 planOrder(1,1)=2 planOrder(2,0)=MISSING");
        c.run(23, sentence, "then searcher 1, though it could stay", "reset(3) " + Runs.links("01 12")
            + "put(1) put(1) tell(0,0)=1 planTurns()=1 planOrder(0,0)=0 planOrder(0,1)=0");
        c.run(23, sentence, "then searcher 2", "reset(3) " + Runs.links("01 12")
            + "put(1) put(1) put(1) tell(0,0)=1 planOrder(0,0)=0 planOrder(0,1)=0 planOrder(0,2)=0");
        c.run(23, sentence, "then the second turn", Runs.PATH4
            + "put(1) put(0) planTurns()=2 planOrder(0,0)=2 planOrder(0,1)=0 planOrder(1,0)=3 planOrder(1,1)=0");
        c.run(23, sentence, "the second turn is not before the first", Runs.PATH4 + "put(0) put(0) planOrder(0,0)=0 "
            + "planOrder(0,1)=1 planOrder(1,0)=0 planOrder(1,1)=2 planOrder(2,0)=0 planOrder(2,1)=3");
        c.run(23, sentence, "not if it took more turns", Runs.PATH4 + "put(0) planOrder(0,0)=1");
        c.run(23, sentence, "the lowest that belongs to a quickest plan", "reset(3) " + Runs.links("01 12")
            + "put(1) tell(0,2)=4 planTurns()=1 planOrder(0,0)=2");
        c.run(23, sentence, "down or up are alike quick", "reset(5) " + Runs.links("01 12 23 34")
            + "put(2) planTurns()=6 planOrder(0,0)=1 planOrder(1,0)=0 planOrder(2,0)=1 planOrder(5,0)=4");
    }

    private void planMoves() {
        String sentence = "Returns the least number of moves of all plans";
        c.run(24, sentence, "one, two and three", "reset(2) link(0,1,1) put(0) planMoves()=1 reset(3) " + Runs.links("01 12")
            + "put(0) planMoves()=2 reset(4) " + Runs.PATH4 + "put(0) planMoves()=3");
        c.run(24, sentence, "fewer than those of the quickest", "reset(5) " + Runs.links("01 12 23 34")
            + "put(1) put(4) planTurns()=2 planMoves()=3");
        c.run(24, sentence, "one guards the middle of a star while the other clears it", Runs.links("01 02 03")
            + "put(0) put(0) planMoves()=4");
        c.run(24, sentence, "one after the other costs less than both at once", Runs.links("01 02 03 12")
            + "put(0) put(1) put(1) planMoves()=2");
        c.run(24, sentence, "none, if the belief is empty", EMPTY_BELIEF
            + "planMoves()=0 leave() planMoves()=0 leave() planMoves()=0");
        c.run(24, "A move is an order by which a searcher leaves its node.", "one who stays makes none", Runs.PATH4
            + "put(0) put(0) put(0) planMoves()=3");
        c.run(24, "A move is an order by which a searcher leaves its node.", "two who go in one turn make two", Runs.PATH4
            + "put(0) put(3) planTurns()=1 planMoves()=2");
        String none = "NOT_FOUND if there is no plan";
        c.run(24, none, "no searchers", Runs.PATH4 + "planMoves()=MISSING");
        c.run(24, none, "one on a ring, and two", Runs.RING4 + "put(0) planMoves()=MISSING put(0) planMoves()=3");
        c.run(24, none, "three on all edges of six nodes", "reset(6) text(" + Runs.ALL_EDGES
            + ") lay() put(0) put(1) put(2) planMoves()=MISSING");
    }

    private void settles() {
        String sentence = "Returns the number of turns after which the belief does not change any more by further turns";
        c.run(25, sentence, "from one end to the other", Runs.PATH6 + "tell(0,0)=1 settles()=5");
        c.run(25, sentence, "each step counts", Runs.PATH6
            + "tell(0,0)=1 turn() settles()=4 turn() settles()=3 turn() settles()=2 turn() settles()=1 turn() settles()=0");
        c.run(25, "Returns the number of turns, 0 or more", "a full belief, an empty one, one that cannot grow",
            "settles()=0 tell(0,0)=1 settles()=0 put(0) belief()=0 settles()=0");
        c.run(25, sentence, "searchers stay where they are, whatever their orders", Runs.PATH6
            + "tell(0,0)=1 put(3) order(0,4) settles()=2 order(0,2) settles()=2");
        c.run(25, sentence, "shut in by two searchers", Runs.PATH6 + "tell(0,2)=4 put(1) put(3) settles()=0");
        c.run(25, sentence, "nothing comes of news", Runs.PATH6 + "tell(0,0)=1 hide(0) setNews(1,0) settles()=5");
        c.longRun(25, sentence, "at the limit of t", Runs.PATH4 + "turn()*10000 tell(10000,0)=1 settles()=3");
    }

    private void leastSearchers() {
        String sentence = "Returns the least number of searchers with which there is a plan, for some nodes at which they begin";
        c.run(26, "Returns the number, 1 to 3", "one", "reset(2) link(0,1,1) leastSearchers()=1");
        c.run(26, "Returns the number, 1 to 3", "two", Runs.RING4 + "leastSearchers()=2");
        c.run(26, "Returns the number, 1 to 3", "three", "reset(3) leastSearchers()=3");
        c.run(26, "Returns the number, 1 to 3", "one for each node, never none",
            "reset(2) leastSearchers()=2 put(0) put(1) belief()=0 leastSearchers()=2");
        c.run(26, "NOT_FOUND if 3 are not enough", "no edges", "leastSearchers()=MISSING link(0,1,1) leastSearchers()=3");
        c.run(26, "NOT_FOUND if 3 are not enough", "all edges", "reset(6) text(" + Runs.ALL_EDGES
            + ") lay() leastSearchers()=MISSING");
        c.run(26, sentence, "those that there are do not count", Runs.PATH4
            + "put(1) put(1) put(1) tell(0,3)=8 leastSearchers()=1");
        c.run(26, sentence, "though those that there are have no plan", Runs.RING4
            + "put(0) planTurns()=MISSING leastSearchers()=2");
        c.run(26, sentence, "every other node is in the belief, the first and the last too",
            "reset(2) leastSearchers()=2 reset(3) link(1,2,1) leastSearchers()=2 reset(3) link(0,1,1) leastSearchers()=2");
        c.run(26, sentence, "nor does the belief, and the edges do", Runs.PATH4
            + "tell(0,0)=1 leastSearchers()=1 link(1,2,0) leastSearchers()=2");
    }

    private void bestTurns() {
        String sentence = "Returns the least number of turns of all plans of a number of searchers, for nodes that are best for "
            + "them to begin at";
        c.run(27, "`searchers`: 1 to 3", "all of them", Runs.PATH6 + "bestTurns(1)=5 bestTurns(2)=2 bestTurns(3)=1");
        c.run(27, "Returns the number of turns", "none, if there is one on each node",
            "reset(2) bestTurns(2)=0 bestTurns(3)=0 reset(3) bestTurns(3)=0 bestTurns(2)=MISSING");
        c.run(27, sentence, "those that there are do not count", Runs.PATH4
            + "put(1) put(1) put(1) tell(0,3)=8 bestTurns(1)=3 bestTurns(2)=1");
        c.run(27, sentence, "nor do their places", Runs.PATH4 + "put(1) planTurns()=4 bestTurns(1)=3 put(1) bestTurns(2)=1");
        c.run(27, sentence, "the belief does not count, not even an empty one", EMPTY_BELIEF + "link(0,1,1) bestTurns(1)=1");
        String[] wrong = {"bestTurns(0)=INVALID", "bestTurns(4)=INVALID", "bestTurns(-1)=INVALID", "bestTurns(LEAST)=INVALID",
            "bestTurns(MOST)=INVALID"};
        c.refused(27, "INVALID_ARGUMENT if searchers is out of range", "busy", Runs.BUSY, wrong);
        c.refused(27, "If several errors apply to a call", "no plan for any number", Runs.FULL, wrong);
        c.run(27, "NOT_FOUND if there is no plan", "one and two on a ring", Runs.RING4
            + "bestTurns(1)=MISSING bestTurns(2)=1 bestTurns(3)=1");
        c.run(27, "NOT_FOUND if there is no plan", "four nodes without edges",
            "bestTurns(1)=MISSING bestTurns(2)=MISSING bestTurns(3)=MISSING");
    }
}
