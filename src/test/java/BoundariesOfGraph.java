/** Promises 1 to 9 and 13 to 16: the graph, the searchers, the belief, the history and what can be asked about them. */
final class BoundariesOfGraph {
    private final Cases c;

    BoundariesOfGraph(Cases cases) {
        c = cases;
    }

    void run() {
        newObject();
        reset();
        resetStartsAnew();
        link();
        linkTakesAllEdges();
        linkDropsOrders();
        linkHasEffectFromTheNextTurnOn();
        put();
        putAndTheBelief();
        putCatches();
        leave();
        order();
        orderIsKept();
        release();
        belief();
        count();
        neighbours();
        searcher();
    }

    private void newObject() {
        c.run(1, "Creates a graph of 4 nodes without edges, without searchers", "every count",
            "count(0)=4 count(1)=0 count(2)=0 count(3)=0 count(4)=1 count(5)=0 count(6)=0 count(7)=0");
        c.run(1, "There are N nodes (2 to 6, initially 4)", "nodes 0 to 3, none before and none behind",
            "count(0)=4 neighbours(-1)=INVALID neighbours(0)=0 neighbours(3)=0 neighbours(4)=INVALID");
        c.run(1, "initially there are none.", "no edge at any node",
            "count(1)=0 neighbours(0)=0 neighbours(1)=0 neighbours(2)=0 neighbours(3)=0 turn()=15 tell(0,0)=1 tell(0,0)=1");
        c.run(1, "There are K searchers (0 to 3, initially 0)", "no searcher",
            "count(2)=0 searcher(0,0)=INVALID order(0,0)=INVALID leave()=IMPOSSIBLE put(0)=0 count(2)=1");
        c.run(1, "The turn counter t is initially 0.", "turn 0 is there, turn 1 and turn -1 are not",
            "count(3)=0 beliefAfter(-1)=INVALID beliefAfter(0)=15 beliefAfter(1)=INVALID");
        c.run(1, "The belief is the set of all nodes", "initially all nodes", "belief()=15 beliefAfter(0)=15 count(4)=1");
        c.run(1, "initially there is none.", "no hidden evader",
            "evader(0)=MISSING evader(1)=MISSING evader(2)=MISSING evader(3)=MISSING evader(4)=MISSING flee(0)=IMPOSSIBLE");
        c.run(1, "Initially P is 0 and D is 0", "both", "count(5)=0 count(6)=0 setNews(1,1)=0");
        c.run(1, "There is a text of at most 60 characters, initially empty.", "empty", "fault()=MISSING clearText()=0");
        c.run(1, "A history of at most 5 states is kept", "empty", "count(7)=0 undo()=IMPOSSIBLE");
        c.run(1, "An object is used for at most 512 calls", "the 512th call still counts", "turn()*511 count(3)=511");
    }

    private void reset() {
        c.run(2, "`nodes`: 2 to 6", "the fewest",
            "reset(2)=4 count(0)=2 belief()=3 neighbours(1)=0 neighbours(2)=INVALID link(0,1,1)=0 put(1)=0 put(2)=INVALID");
        c.run(2, "`nodes`: 2 to 6", "the most",
            "reset(6)=4 count(0)=6 belief()=63 neighbours(5)=0 neighbours(6)=INVALID link(0,5,1)=0 put(5)=0 put(6)=INVALID");
        c.run(2, "Returns the previous number of nodes", "every number",
            "reset(2)=4 reset(3)=2 reset(4)=3 reset(5)=4 reset(6)=5 reset(6)=6 reset(2)=6 reset(2)=2");
        String[] wrong = {"reset(1)=INVALID", "reset(7)=INVALID", "reset(0)=INVALID", "reset(-1)=INVALID", "reset(-2)=INVALID",
            "reset(LEAST)=INVALID", "reset(MOST)=INVALID"};
        c.refused(2, "INVALID_ARGUMENT if nodes is out of range", "new", "", wrong);
        c.refused(2, "INVALID_ARGUMENT if nodes is out of range", "busy", Runs.BUSY, wrong);
    }

    private void resetStartsAnew() {
        String sentence = "Starts anew: a number of nodes, no edges, no searchers, no hidden evader, turn 0";
        c.samePresent(2, sentence, "from busy as a new object", Runs.BUSY + "setNews(0,0) clearText() reset(4)=5", "");
        c.samePresent(2, sentence, "from full as a new object", Runs.FULL + "clearText() reset(4)=6", "");
        c.samePresent(2, sentence, "the same number of nodes", Runs.PATH4 + "put(0) hide(2) turn() reset(4)=4", "");
        c.run(2, sentence, "all places for searchers are free again",
            "put(0) put(1) put(2) put(3)=LIMIT reset(4)=4 count(2)=0 put(0)=0 put(1)=1 put(2)=2 put(3)=LIMIT");
        c.run(2, sentence, "turn 0 after more turns than are kept",
            Runs.PATH4
                + "put(0) turn()*9 reset(3)=4 count(3)=0 count(4)=1 beliefAfter(0)=7 beliefAfter(1)=INVALID turn()=7 count(4)=2");
        c.run(2, sentence, "what is gone does not come back with more nodes",
            Runs.PATH6 + "reset(2)=6 reset(6)=2 count(1)=0 neighbours(0)=0 neighbours(5)=0");
        c.run(2, sentence, "the hidden evader is gone, and gives no news",
            Runs.PATH4 + "setNews(1,0) hide(0) reset(4)=4 evader(0)=MISSING turn()=15 belief()=15");
        c.run(2, "the period, the delay and the text stay", "the greatest ones",
            "setNews(9,7) text(" + Runs.ALL_EDGES + ") reset(6)=4 count(5)=9 count(6)=7 fault()=MISSING clearText()=60");
        c.run(2, "the period, the delay and the text stay", "so the fault depends on the new number of nodes",
            "text(2-3;) fault()=MISSING reset(3)=4 fault()=0 reset(4)=3 fault()=MISSING");
    }

    private void link() {
        c.run(3, "`a`: a node", "first and last of 2", "reset(2) link(0,1,1)=0 link(1,0,1)=1");
        c.run(3, "`b`: another node", "first and last of 6", "reset(6) link(0,5,1)=0 link(5,0,0)=1 count(1)=0");
        c.run(3, "`is`: 1 to add it, 0 to remove it", "both",
            "link(0,1,0)=0 count(1)=0 link(0,1,1)=0 count(1)=1 link(0,1,0)=1 count(1)=0");
        c.run(3, "Adds or removes an edge", "of two edges only this one",
            "link(0,1,1)=0 link(1,2,1)=0 link(0,1,0)=1 count(1)=1 neighbours(0)=0 neighbours(1)=4 neighbours(2)=2");
        c.run(3, "Returns 1 if there was an edge between them, otherwise 0", "whichever is named first",
            "link(2,3,1)=0 link(3,2,1)=1 link(3,2,0)=1 link(2,3,0)=0 link(3,2,1)=0");
        String sentence = "INVALID_ARGUMENT if an argument is out of range or both nodes are the same";
        String[] nodes = {"link(-1,0,1)=INVALID", "link(5,0,1)=INVALID", "link(0,-1,0)=INVALID", "link(0,5,0)=INVALID",
            "link(LEAST,0,1)=INVALID", "link(MOST,0,1)=INVALID", "link(0,LEAST,1)=INVALID", "link(0,MOST,1)=INVALID",
            "link(5,5,1)=INVALID", "link(-1,-1,0)=INVALID"};
        c.refused(3, sentence, "a node out of range", Runs.BUSY, nodes);
        c.refused(3, sentence, "the same nodes", Runs.BUSY, "link(0,0,1)=INVALID", "link(0,0,0)=INVALID", "link(4,4,1)=INVALID",
            "link(4,4,0)=INVALID");
        c.refused(3, sentence, "is", Runs.BUSY, "link(0,1,-1)=INVALID", "link(0,1,2)=INVALID", "link(0,3,2)=INVALID",
            "link(0,1,LEAST)=INVALID", "link(0,1,MOST)=INVALID");
        c.refused(3, sentence, "the first node that is not there, of 2", "reset(2) ", "link(2,0,1)=INVALID",
            "link(1,2,1)=INVALID");
        c.refused(3, sentence, "the first node that is not there, of 6", "reset(6) ", "link(6,0,1)=INVALID",
            "link(5,6,1)=INVALID");
    }

    private void linkTakesAllEdges() {
        String sentence = "There are N nodes (2 to 6, initially 4), numbered from 0, and edges between different nodes, at most "
            + "one";
        c.run(3, sentence, "a second one between the same nodes is none",
            "link(0,1,1)=0 link(0,1,1)=1 link(1,0,1)=1 count(1)=1 neighbours(0)=2 neighbours(1)=1 link(1,0,0)=1 count(1)=0 "
                + "neighbours(0)=0");
        c.run(3, sentence, "all edges of 6 nodes",
            "reset(6) " + Runs.links("01 02 03 04 05 12 13 14 15 23 24 25 34 35 45") + "count(1)=15 link(5,4,1)=1 count(1)=15 "
            + "neighbours(0)=62 neighbours(1)=61 neighbours(2)=59 neighbours(3)=55 neighbours(4)=47 neighbours(5)=31 "
            + "link(0,5,0)=1 count(1)=14 neighbours(0)=30 neighbours(5)=30");
        c.run(3, sentence, "all edges of 2 nodes",
            "reset(2)=4 count(0)=2 link(1,0,1)=0 count(1)=1 neighbours(0)=2 neighbours(1)=1 neighbours(2)=INVALID");
    }

    private void linkDropsOrders() {
        String sentence = "When an edge is removed along which a searcher (or the hidden evader) would go, its order becomes its "
            + "own node";
        c.run(3, sentence, "in the direction in which the edge is named",
            Runs.PATH4 + "put(1) order(0,2) link(1,2,0)=1 searcher(0,1)=1 searcher(0,0)=1");
        c.run(3, sentence, "against it", Runs.PATH4 + "put(1) order(0,2) link(2,1,0)=1 searcher(0,1)=1");
        c.run(3, sentence, "all three searchers, from both ends",
            Runs.PATH4 + "put(1) put(2) put(1) order(0,2) order(1,1) order(2,2) link(1,2,0) searcher(0,1)=1 searcher(1,1)=2 "
                + "searcher(2,1)=1");
        c.run(3, sentence, "another edge at the same node leaves it",
            Runs.PATH4 + "put(1) order(0,2) link(0,1,0)=1 searcher(0,1)=2 link(2,3,0)=1 searcher(0,1)=2 turn() searcher(0,0)=2");
        c.run(3, sentence, "an edge that is not there leaves it",
            Runs.PATH4 + "put(1) order(0,2) link(1,3,0)=0 searcher(0,1)=2 link(0,3,0)=0 searcher(0,1)=2");
        c.run(3, sentence, "adding the edge again leaves it", Runs.PATH4 + "put(1) order(0,2) link(1,2,1)=1 searcher(0,1)=2");
        c.run(3, sentence, "the hidden evader", Runs.PATH4 + "hide(3) flee(2) link(2,3,0)=1 evader(1)=3 evader(0)=3");
        c.run(3, sentence, "another edge leaves the hidden evader's", Runs.PATH4 + "hide(3) flee(2) link(1,2,0)=1 evader(1)=2");
        c.run(3, sentence, "one who stays, stays", Runs.PATH4 + "put(1) hide(2) link(1,2,0)=1 searcher(0,1)=1 evader(1)=2");
        c.run(3, sentence, "the edge that comes back does not bring the order back",
            Runs.PATH4 + "put(1) order(0,2) hide(3) flee(2) link(1,2,0) link(1,2,1)=0 link(2,3,0) link(2,3,1)=0 searcher(0,1)=1 "
                + "evader(1)=3");
        c.run(3, sentence, "undo does", Runs.PATH4 + "put(1) order(0,2) link(1,2,0) searcher(0,1)=1 undo()=4 searcher(0,1)=2");
    }

    private void linkHasEffectFromTheNextTurnOn() {
        String sentence = "Edges that are changed have an effect from the next turn on";
        c.run(3, sentence, "an edge more", Runs.PATH4 + "tell(0,0)=1 link(0,2,1)=0 belief()=1 beliefAfter(0)=1 turn()=7");
        c.run(3, sentence, "an edge less", Runs.PATH4 + "tell(0,0)=1 turn()=3 link(1,2,0)=1 belief()=3 turn()=3");
        c.run(3, sentence, "the turns before keep theirs, one less", Runs.PATH4 + "turn() link(0,1,0) tell(0,0)=3 turn()=7");
        c.run(3, sentence, "the turns before keep theirs, one more", "turn() link(0,1,1) tell(0,0)=1 turn()=3");
    }

    private void put() {
        c.run(5, "`node`: a node", "first and last of 2", "reset(2) put(0)=0 put(1)=1 belief()=0");
        c.run(5, "`node`: a node", "first and last of 6", "reset(6) put(0)=0 put(5)=1 belief()=30");
        c.refused(5, "INVALID_ARGUMENT", "busy", Runs.BUSY, "put(-1)=INVALID", "put(5)=INVALID", "put(LEAST)=INVALID",
            "put(MOST)=INVALID");
        c.refused(5, "INVALID_ARGUMENT", "2 nodes", "reset(2) ", "put(2)=INVALID", "put(3)=INVALID");
        c.refused(5, "INVALID_ARGUMENT", "6 nodes", "reset(6) ", "put(6)=INVALID", "put(-1)=INVALID");
        c.run(5, "Returns the number of the searcher", "0, 1, 2",
            "put(3)=0 put(2)=1 put(1)=2 searcher(0,0)=3 searcher(1,0)=2 searcher(2,0)=1");
        c.run(5, "Puts a new searcher on a node.", "a number that has become free is given again",
            "put(3)=0 put(2)=1 leave()=1 put(0)=1 searcher(1,0)=0 searcher(0,0)=3");
        c.run(5, "There are K searchers (0 to 3, initially 0)", "none to all",
            "count(2)=0 put(0) count(2)=1 put(1) count(2)=2 put(2) count(2)=3 put(3)=LIMIT count(2)=3");
        c.run(5, "several can be at the same node.", "all three",
            Runs.PATH4 + "put(1)=0 put(1)=1 put(1)=2 belief()=13 searcher(0,0)=1 searcher(1,0)=1 searcher(2,0)=1 order(1,2) "
                + "turn() searcher(0,0)=1 searcher(1,0)=2");
        c.run(5, "several can be at the same node.", "two come to where the third one is",
            Runs.PATH4 + "put(0) put(2) put(1) order(0,1) order(1,1) turn() searcher(0,0)=1 searcher(1,0)=1 searcher(2,0)=1");
        c.refused(5, "LIMIT_REACHED if there are 3", "all places taken", Runs.FULL, "put(0)=LIMIT", "put(5)=LIMIT",
            "put(2)=LIMIT");
        c.run(5, "LIMIT_REACHED if there are 3", "the third and the fourth, and again after one has left",
            "put(0)=0 put(0)=1 put(0)=2 put(0)=LIMIT leave()=2 put(1)=2 put(1)=LIMIT");
        c.refused(5, "If several errors apply to a call", "no such node and 3 searchers", Runs.FULL, "put(6)=INVALID",
            "put(-1)=INVALID");
        c.run(5, "When a searcher is put on a node, and after each turn, its order is the node at which it is.",
            "put, also in place of one with another order",
            Runs.PATH4 + "put(1) searcher(0,1)=1 order(0,2) leave() put(0)=0 searcher(0,1)=0 turn() searcher(0,0)=0");
    }

    private void putAndTheBelief() {
        String sentence = "When a searcher is put on a node, this node is not in the belief any more.";
        c.run(5, sentence, "this one and no other", "put(2) belief()=11 put(0) belief()=10 put(3) belief()=2");
        c.run(5, sentence, "the last node of the belief", "tell(0,2)=4 put(2) belief()=0");
        c.run(5, sentence, "a node that was not in it", "tell(0,2)=4 put(1) belief()=4 put(1) belief()=4");
        String only = "putting a searcher changes the present one only).";
        c.run(5, only, "those before stay", Runs.PATH4
            + "turn() put(2) belief()=11 beliefAfter(1)=11 beliefAfter(0)=15 count(4)=2");
        c.run(5, only, "at the place where a ring of eight begins anew",
            Runs.PATH4
                + "turn()*8 put(2) beliefAfter(8)=11 beliefAfter(7)=15 beliefAfter(1)=15 beliefAfter(0)=MISSING count(4)=8");
    }

    private void putCatches() {
        String sentence = "A hidden evader at this node is caught";
        c.run(5, sentence, "at this node, at turn 0", "hide(2) put(2) evader(2)=1 evader(3)=0 evader(0)=2");
        c.run(5, sentence, "at this node, later", "turn()*3 hide(2) turn() put(2) evader(2)=1 evader(3)=4 evader(4)=3");
        c.run(5, sentence, "next to it, it is not", Runs.PATH4 + "hide(2) put(1) put(3) evader(2)=0 evader(3)=0");
        c.run(5, sentence, "not where it will go", Runs.PATH4 + "hide(2) flee(3) put(3) evader(2)=0 evader(1)=3");
        c.run(5, sentence, "by the third searcher too", "hide(2) put(0) put(0) put(2) evader(2)=1");
        c.run(5, "(Once it is caught, it stays so, and its order is its node.)", "caught on its node with another order",
            Runs.PATH4 + "hide(2) flee(3) put(2) evader(1)=2 evader(0)=2 turn() evader(0)=2 evader(2)=1");
        c.run(5, "(Once it is caught, it stays so, and its order is its node.)", "caught before, it stays as it was",
            "turn() hide(2) put(2) turn() put(2) evader(3)=1 leave() leave() turn() evader(2)=1 evader(3)=1");
    }

    private void leave() {
        c.run(6, "Removes the last searcher.", "not the first",
            "put(2) put(1) put(0) leave()=2 searcher(2,0)=INVALID searcher(1,0)=1 searcher(0,0)=2 leave()=1 "
                + "searcher(1,0)=INVALID searcher(0,0)=2");
        c.run(6, "Returns the number of searchers that remain", "from all to none",
            "put(0) put(0) put(0) leave()=2 leave()=1 leave()=0 count(2)=0");
        c.run(6, "(The belief stays.)", "its node does not come back by itself",
            Runs.PATH4 + "put(0) belief()=14 leave()=0 belief()=14 count(4)=1 ahead()=15 turn()=15");
        c.run(6, "(The belief stays.)", "an empty one too",
            "reset(2) put(0) put(1) leave()=1 belief()=0 leave()=0 belief()=0 turn()=0");
        c.refused(6, "NOT_POSSIBLE if there is none", "never one", "", "leave()=IMPOSSIBLE");
        c.refused(6, "NOT_POSSIBLE if there is none", "not any more", "put(0) put(1) leave() leave() ", "leave()=IMPOSSIBLE");
        c.refused(6, "NOT_POSSIBLE if there is none", "not since reset", Runs.BUSY + "reset(5) ", "leave()=IMPOSSIBLE");
        c.run(6, "NOT_POSSIBLE if there is none", "the last one can still", "put(0) leave()=0 leave()=IMPOSSIBLE");
        c.run(6, "Removes the last searcher.", "who has left catches nobody",
            Runs.PATH4 + "put(1) hide(2) flee(1) leave() turn() evader(2)=0 evader(0)=1");
    }

    private void order() {
        c.run(7, "`searcher`: number of the searcher", "first and last of 3",
            Runs.PATH4 + "put(1) put(1) put(1) order(0,0)=1 order(2,2)=1 order(3,1)=INVALID order(-1,1)=INVALID searcher(0,1)=0 "
                + "searcher(1,1)=1 searcher(2,1)=2");
        c.run(7, "`searcher`: number of the searcher", "one searcher", Runs.PATH4 + "put(1) order(0,1)=1 order(1,1)=INVALID");
        c.run(7, "`node`: a node", "first and last of 2", "reset(2) link(0,1,1) put(0) order(0,1)=0 order(0,0)=1");
        c.run(7, "`node`: a node", "first and last of 6", "reset(6) link(0,5,1) put(0) order(0,5)=0 order(0,0)=5");
        c.refused(7, "INVALID_ARGUMENT", "no searchers", Runs.PATH4, "order(0,0)=INVALID", "order(-1,0)=INVALID",
            "order(1,0)=INVALID");
        c.refused(7, "INVALID_ARGUMENT", "one searcher", Runs.BUSY, "order(1,1)=INVALID", "order(-1,1)=INVALID",
            "order(LEAST,1)=INVALID",
            "order(MOST,1)=INVALID", "order(0,-1)=INVALID", "order(0,5)=INVALID", "order(0,LEAST)=INVALID",
                "order(0,MOST)=INVALID");
        c.refused(7, "INVALID_ARGUMENT", "three searchers", Runs.FULL, "order(3,0)=INVALID", "order(2,6)=INVALID");
        c.run(7, "Returns the node of its previous order", "not that of its node or of the others",
            Runs.PATH4 + "put(1) put(2) order(0,0)=1 order(0,2)=0 order(0,2)=2 order(0,1)=2 order(1,3)=2 order(0,1)=1");
        String far = "NOT_POSSIBLE if node is neither its node nor a neighbour of it";
        c.run(7, far, "its node, a neighbour, a neighbour's neighbour",
            Runs.PATH4 + "put(0) order(0,0)=0 order(0,1)=0 order(0,2)=IMPOSSIBLE order(0,3)=IMPOSSIBLE searcher(0,1)=1");
        c.refused(7, far, "busy", Runs.BUSY, "order(0,3)=IMPOSSIBLE", "order(0,4)=IMPOSSIBLE");
        c.refused(7, far, "no edges", "put(0) ", "order(0,1)=IMPOSSIBLE", "order(0,3)=IMPOSSIBLE");
        c.run(7, far, "as soon as the edge is there, and not when it is gone",
            "put(0) order(0,3)=IMPOSSIBLE link(3,0,1) order(0,3)=0 order(0,0)=3 link(0,3,0) order(0,3)=IMPOSSIBLE");
        c.run(7, far, "a neighbour of where it will be is not enough",
            Runs.PATH4 + "put(0) order(0,1)=0 order(0,2)=IMPOSSIBLE");
        c.refused(7, "If several errors apply to a call", "no such searcher, and too far", Runs.BUSY, "order(1,4)=INVALID",
            "order(-1,4)=INVALID");
        c.run(7, "If there is no node or searcher with a certain number, this is INVALID_ARGUMENT.", "a searcher that has left",
            Runs.PATH4 + "put(0) put(1) order(1,2)=1 leave() order(1,2)=INVALID searcher(1,0)=INVALID planOrder(0,1)=INVALID");
        c.run(7, "If there is no node or searcher with a certain number, this is INVALID_ARGUMENT.", "a node that is gone",
            "reset(6) link(0,5,1)=0 put(5)=0 reset(5) put(0) put(5)=INVALID order(0,5)=INVALID link(0,5,1)=INVALID "
                + "hide(5)=INVALID flee(5)=INVALID tell(0,5)=INVALID neighbours(5)=INVALID");
    }

    private void orderIsKept() {
        c.run(7, "Gives a searcher an order", "the last one counts", Runs.PATH4
            + "put(1) order(0,0) order(0,2) turn() searcher(0,0)=2");
        c.run(7, "Each searcher has an order, which is its own node or a neighbour of it", "from the beginning",
            Runs.PATH4 + "put(2) searcher(0,1)=2 order(0,3) searcher(0,1)=3 searcher(0,0)=2");
        c.run(7, "Each searcher has an order, which is its own node or a neighbour of it", "no other node",
            Runs.PATH4 + "put(2) order(0,0)=IMPOSSIBLE searcher(0,1)=2 order(0,2)=2 order(0,1)=2 order(0,0)=IMPOSSIBLE "
                + "searcher(0,1)=1");
        c.run(7, "Each searcher has an order, which is its own node or a neighbour of it", "each its own",
            Runs.PATH4 + "put(1) put(1) put(2) order(2,3) order(1,0) searcher(0,1)=1 searcher(1,1)=0 searcher(2,1)=3");
        c.run(7, "it goes there in the next turn.", "not before it, and not further in the one after it",
            Runs.PATH4 + "put(0) order(0,1) searcher(0,0)=0 turn() searcher(0,0)=1 turn() searcher(0,0)=1");
    }

    private void release() {
        c.run(8, "Makes the belief anew: all nodes at which there is no searcher", "no searcher, and none any more",
            "release()=15 put(0) leave() belief()=14 release()=15");
        c.run(8, "Returns the belief", "all three at one node", "put(3) put(3) put(3) tell(0,0)=1 release()=7 belief()=7");
        c.run(8, "Makes the belief anew: all nodes at which there is no searcher", "a searcher at every node",
            "reset(3) put(0) put(1) put(2) release()=0 belief()=0");
        c.run(8, "Makes the belief anew: all nodes at which there is no searcher", "from empty",
            "reset(2) put(0) put(1) leave() belief()=0 release()=2");
        String only = "only this one is kept.";
        c.run(8, only, "of eight", "turn()*8 count(4)=8 release()=15 count(4)=1 beliefAfter(7)=MISSING tell(7,0)=MISSING "
            + "beliefAfter(8)=15 beliefAfter(9)=INVALID");
        c.run(8, only, "and then up to eight again",
            "turn()*3 release() turn()*6 count(4)=7 beliefAfter(3)=15 beliefAfter(2)=MISSING turn() count(4)=8 beliefAfter(3)=15 "
                + "turn() count(4)=8 beliefAfter(3)=MISSING beliefAfter(4)=15");
        c.run(8, "A hidden evader stays", "free, with its order",
            Runs.PATH4 + "turn() hide(2) flee(3) release()=15 evader(0)=2 evader(1)=3 evader(2)=0 evader(4)=1");
        c.run(8, "A hidden evader stays", "caught", Runs.PATH4
            + "turn() hide(2) put(2) release()=11 evader(0)=2 evader(2)=1 evader(3)=1");
        c.run(8, "Makes the belief anew: all nodes at which there is no searcher", "searchers and orders stay",
            Runs.PATH4 + "put(0) order(0,1) release()=14 searcher(0,0)=0 searcher(0,1)=1 count(3)=0 count(1)=3");
    }

    private void belief() {
        String sentence = "The belief is the set of all nodes at which the evader can be";
        c.run(9, sentence, "after reset", "put(0) tell(0,1) reset(3) belief()=7 count(4)=1");
        c.run(9, sentence, "after lay", "put(0) tell(0,1) lay()=0 belief()=14 count(4)=1");
        c.run(9, sentence, "after release", "put(0) tell(0,1) release()=14 belief()=14 count(4)=1");
        c.run(9, "Returns the belief", "full, one node, empty",
            "reset(6) belief()=63 tell(0,5)=32 belief()=32 put(5) belief()=0");
        c.run(9, "Sets of nodes are bit masks, in which bit k stands for node k", "every bit",
            "reset(6) tell(0,0)=1 release() tell(0,1)=2 release() tell(0,2)=4 release() tell(0,3)=8 release() tell(0,4)=16 "
                + "release() tell(0,5)=32");
    }

    private void count() {
        c.run(14, "Returns a number", "every one", Runs.PATH6 + "put(0) put(1) turn()*3 setNews(4,5) "
            + "count(0)=6 count(1)=5 count(2)=2 count(3)=3 count(4)=4 count(5)=4 count(6)=5 count(7)=5");
        c.run(14, "`what`: 0: N", "fewest and most", "reset(2) count(0)=2 reset(6) count(0)=6");
        c.run(14, "1: the number of edges", "none and all",
            "reset(6) count(1)=0 text(" + Runs.ALL_EDGES + ") lay() count(1)=15");
        c.run(14, "2: K", "none and all", "count(2)=0 put(0)*3 count(2)=3");
        c.run(14, "3: t", "grows with turns only",
            "count(3)=0 turn() count(3)=1 put(0) link(0,1,1) release() count(3)=1 turn() count(3)=2 undo() count(3)=1");
        c.run(14, "4: the number of kept beliefs", "one to eight",
            "count(4)=1 turn()*6 count(4)=7 turn() count(4)=8 turn() count(4)=8 release() count(4)=1");
        c.run(14, "5: P", "least and greatest", "count(5)=0 setNews(9,0) count(5)=9");
        c.run(14, "6: D", "least and greatest", "count(6)=0 setNews(0,7) count(6)=7");
        c.run(14, "7: states in the history", "none to five",
            "count(7)=0 turn() count(7)=1 turn()*3 count(7)=4 turn() count(7)=5 turn() count(7)=5 undo() count(7)=4");
        c.run(14, "Returns the number", "the first and the last", "setNews(2,3) count(0)=4 count(7)=1");
        c.refused(14, "INVALID_ARGUMENT if what is out of range", "busy", Runs.BUSY, "count(-1)=INVALID", "count(8)=INVALID",
            "count(LEAST)=INVALID", "count(MOST)=INVALID");
    }

    private void neighbours() {
        c.run(15, "`node`: a node", "first and last",
            "reset(2) link(0,1,1) neighbours(0)=2 neighbours(1)=1 neighbours(2)=INVALID reset(6) neighbours(5)=0");
        c.refused(15, "INVALID_ARGUMENT", "busy", Runs.BUSY, "neighbours(-1)=INVALID", "neighbours(5)=INVALID",
            "neighbours(LEAST)=INVALID", "neighbours(MOST)=INVALID");
        c.refused(15, "INVALID_ARGUMENT", "6 nodes", Runs.FULL, "neighbours(6)=INVALID", "neighbours(-1)=INVALID");
        c.run(15, "Two nodes are neighbours if there is an edge between them", "both ways, and nobody of itself",
            "link(1,3,1) neighbours(1)=8 neighbours(3)=2 neighbours(0)=0 neighbours(2)=0");
        c.run(15, "Returns the neighbours of a node", "none and all others", Runs.FULL
            + "neighbours(0)=62 neighbours(5)=31 clearText() lay() neighbours(0)=0");
        c.run(15, "Returns the neighbours of a node", "each node has its own", Runs.PATH6
            + "neighbours(2)=10 neighbours(3)=20 neighbours(4)=40 neighbours(0)=2");
        c.run(15, "Returns the set of its neighbours", "not those further away", Runs.PATH6
            + "neighbours(0)=2 neighbours(1)=5 neighbours(5)=16");
    }

    private void searcher() {
        c.run(16, "`searcher`: number of the searcher", "first, last, and none",
            "searcher(0,0)=INVALID put(3) searcher(0,0)=3 searcher(1,0)=INVALID put(2) put(1) searcher(2,0)=1 "
                + "searcher(3,0)=INVALID searcher(-1,0)=INVALID");
        c.run(16, "`what`: 0: its node", "its node", Runs.PATH4 + "put(1) order(0,2) searcher(0,0)=1");
        c.run(16, "1: the node of its order", "its order", Runs.PATH4 + "put(1) order(0,2) searcher(0,1)=2");
        c.run(16, "Returns the node", "first and last node", "reset(6) put(0) put(5) searcher(0,0)=0 searcher(1,0)=5");
        c.run(16, "Returns a property of a searcher", "each its own", Runs.PATH4
            + "put(1) put(2) order(1,3) searcher(0,1)=1 searcher(1,1)=3");
        c.refused(16, "INVALID_ARGUMENT", "busy", Runs.BUSY, "searcher(-1,0)=INVALID", "searcher(1,0)=INVALID",
            "searcher(0,-1)=INVALID",
            "searcher(0,2)=INVALID", "searcher(LEAST,0)=INVALID", "searcher(MOST,1)=INVALID", "searcher(0,LEAST)=INVALID",
                "searcher(0,MOST)=INVALID");
        c.refused(16, "INVALID_ARGUMENT", "three searchers", Runs.FULL, "searcher(3,0)=INVALID", "searcher(2,2)=INVALID");
    }
}
