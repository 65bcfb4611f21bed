/** Promises 4 and 28 to 30: texts, and graphs laid from them. */
final class BoundariesOfTexts {
    private static final String GRAPH = "As a graph it is a sequence of edges, each followed by \";\": two different digits of "
        + "nodes (0 to N - 1)";
    private static final String TWICE = "no edge joins the same nodes as one before it.";
    private static final String POSITION = "The fault of the text is the position, from 0, of the first character of the first "
        + "edge that is not so";
    private final Cases c;

    BoundariesOfTexts(Cases cases) {
        c = cases;
    }

    void run() {
        lay();
        layAndTheRest();
        layIsRefused();
        type();
        clearText();
        faultOfSigns();
        faultOfNodes();
        faultOfEdges();
        faultPosition();
    }

    private void lay() {
        c.run(4, "Replaces all edges by those of the text.", "others, none of those before", Runs.PATH4
            + "text(0-3;) lay()=1 neighbours(0)=8 neighbours(1)=0 neighbours(2)=0 neighbours(3)=1");
        c.run(4, "Replaces all edges by those of the text.", "an empty text",
            Runs.PATH4 + "lay()=0 count(1)=0 neighbours(1)=0");
        c.run(4, "Replaces all edges by those of the text.", "the same edges", Runs.PATH4
            + "text(3-2;2-1;1-0;) lay()=3 count(1)=3 neighbours(1)=5");
        c.run(4, "Returns the number of edges", "all of 6 nodes", "reset(6) text(" + Runs.ALL_EDGES + ") lay()=15 count(1)=15 "
            + "neighbours(0)=62 neighbours(1)=61 neighbours(2)=59 neighbours(3)=55 neighbours(4)=47 neighbours(5)=31");
        c.run(4, "Returns the number of edges", "the only one of 2 nodes", "reset(2) text(1-0;) lay()=1 neighbours(0)=2");
        c.run(4, "The text stays", "laid twice", "text(0-1;) lay()=1 lay()=1 fault()=MISSING clearText()=4");
        c.run(4, "The text stays", "and can be gone on with", "text(0-1;) lay()=1 text(1-2;) lay()=2");
    }

    private void layAndTheRest() {
        c.run(4, "Searchers and the hidden evader stay", "three, and a free one", Runs.PATH4
            + "put(0) put(1) put(1) turn() hide(3) lay()=0 count(2)=3 searcher(0,0)=0 searcher(1,0)=1 searcher(2,0)=1 "
            + "evader(0)=3 evader(2)=0 evader(4)=1 count(3)=1");
        c.run(4, "Searchers and the hidden evader stay", "a caught one",
            "turn() hide(3) put(3) turn() lay()=0 evader(0)=3 evader(2)=1 evader(3)=1");
        String orders = "all orders become the own nodes, and the belief is made anew: all nodes at which there is no searcher.";
        c.run(4, orders, "all three searchers and the evader, though their edges stay", Runs.PATH4
            + "text(0-1;1-2;2-3;) put(0) put(1) put(1) hide(3) order(0,1) order(1,0) order(2,2) flee(2) lay()=3 "
            + "searcher(0,1)=0 searcher(1,1)=1 searcher(2,1)=1 evader(1)=3 turn() searcher(0,0)=0 evader(0)=3");
        c.run(4, orders, "no searcher any more", "put(0) leave() belief()=14 lay()=0 belief()=15");
        c.run(4, orders, "a searcher at every node", "reset(3) put(0) put(1) put(2) lay()=0 belief()=0");
        c.run(4, orders, "all searchers at one node", "put(2) put(2) put(2) tell(0,0)=1 lay()=0 belief()=11");
        c.run(4, orders, "only this one is kept",
            "turn()*8 lay()=0 count(4)=1 beliefAfter(7)=MISSING beliefAfter(8)=15 tell(7,0)=MISSING");
    }

    private void layIsRefused() {
        String sentence = "NOT_POSSIBLE if the text has a fault";
        String[] texts = {"0", "0-", "0-1", "0-1;1", "0-1;1-2;2-3", "0-5;", "5-0;", "0-0;", "0-1;1-0;", "0_1;", "0-1,", " 0-1;",
            "0-1; "};
        for (String text : texts) {
            c.refused(4, sentence, "text " + text, Runs.BUSY + "clearText() text(" + text + ") ", "lay()=IMPOSSIBLE");
        }
        c.run(4, sentence, "it depends on the number of nodes",
            "text(0-4;) lay()=IMPOSSIBLE reset(5) lay()=1 reset(4) lay()=IMPOSSIBLE count(1)=0");
        c.run(4, sentence, "the last character that was missing",
            "text(0-1) lay()=IMPOSSIBLE type(59)=4 lay()=1 type(59)=5 lay()=IMPOSSIBLE count(1)=1");
    }

    private void type() {
        c.run(28, "`character`: 32 to 126", "first and last",
            "type(32)=1 type(126)=2 type(31)=INVALID type(127)=INVALID clearText()=2");
        c.run(28, "Appends a character to the text", "behind those before",
            "type(48) type(45) type(49) type(59) fault()=MISSING lay()=1 neighbours(0)=2");
        c.run(28, "Returns the length of the text", "1, 2 and so on",
            "type(65)=1 type(65)=2 type(66)=3 clearText()=3 type(67)=1");
        String[] wrong = {"type(31)=INVALID", "type(127)=INVALID", "type(0)=INVALID", "type(-1)=INVALID", "type(128)=INVALID",
            "type(65584)=INVALID", "type(LEAST)=INVALID", "type(MOST)=INVALID"};
        c.refused(28, "INVALID_ARGUMENT if character is out of range", "new", "", wrong);
        c.refused(28, "INVALID_ARGUMENT if character is out of range", "busy", Runs.BUSY, wrong);
        c.run(28, "LIMIT_REACHED if it has 60 characters", "the 60th and the 61st",
            "type(32)*58 type(32)=59 type(32)=60 type(32)=LIMIT type(32)=LIMIT clearText()=60");
        c.refused(28, "LIMIT_REACHED if it has 60 characters", "a graph", Runs.FULL, "type(48)=LIMIT", "type(32)=LIMIT",
            "type(126)=LIMIT");
        c.refused(28, "If several errors apply to a call", "60 characters, and none of these", Runs.FULL, "type(31)=INVALID",
            "type(127)=INVALID", "type(MOST)=INVALID");
        c.run(28, "There is a text of at most 60 characters, initially empty.", "60 again when it is emptied",
            "type(65)*60 type(65)=LIMIT clearText()=60 type(65)*59 type(65)=60 type(65)=LIMIT");
    }

    private void clearText() {
        c.run(29, "Empties the text", "nothing is left of it",
            "text(xy) clearText()=2 fault()=MISSING text(0-1;) fault()=MISSING lay()=1");
        c.run(29, "Returns the length it had", "0, 1 and 60",
            "clearText()=0 type(65) clearText()=1 clearText()=0 type(65)*60 clearText()=60 clearText()=0");
        c.run(29, "Empties the text", "the edges that were laid stay", "text(0-1;) lay()=1 clearText()=4 count(1)=1");
    }

    private void faultOfSigns() {
        String[] texts = {"0_1;", "0 1;", "0,1;", "0.1;", "001;", "0-1:", "0-1<", "0-1 ", "0-1-", "a-1;", "0-a;", "/-1;",
            "0-/;",
            ":-1;", "0-:;", " -1;", "0- ;", "--1;", "0--;", ";", "-", "0;1;", "01;", "0-12;"};
        for (String text : texts) {
            c.run(30, GRAPH, "sign in " + text, "text(" + text + ") fault()=0");
        }
        c.run(30, GRAPH, "an edge, and one that is only begun",
            "text(0-1;) fault()=MISSING text(1) fault()=4 text(-) fault()=4 text(2) fault()=4 text(;) fault()=MISSING");
        c.run(30, GRAPH, "what was emptied does not end an edge",
            "text(0-1;) clearText() text(0-1) fault()=0 text(;) fault()=MISSING");
        c.run(30, GRAPH, "nothing between edges",
            "text(0-1;;1-2;) fault()=4 clearText() text(0-1; 1-2;) fault()=4 clearText() text(0-1;1-2; ) fault()=8");
    }

    private void faultOfNodes() {
        for (int nodes = 2; nodes <= 6; nodes++) {
            String reset = "reset(" + nodes + ") ";
            c.run(30, GRAPH, "the last of " + nodes + " nodes", reset + "text(0-" + (nodes - 1)
                + ";) fault()=MISSING clearText() text(" + (nodes - 1) + "-0;) fault()=MISSING");
            c.run(30, GRAPH, "the first that is not there, of " + nodes, reset + "text(0-" + nodes
                + ";) fault()=0 clearText() text(" + nodes + "-0;) fault()=0");
        }
        c.run(30, GRAPH, "two different digits",
            "text(0-0;) fault()=0 clearText() text(3-3;) fault()=0 clearText() text(3-2;) fault()=MISSING");
        c.run(30, GRAPH, "digits of no node",
            "reset(6) text(0-9;) fault()=0 clearText() text(9-0;) fault()=0 clearText() text(7-8;) fault()=0");
    }

    private void faultOfEdges() {
        c.run(30, TWICE, "the same, and the other way round", "text(0-1;0-1;) fault()=4 clearText() text(0-1;1-0;) fault()=4");
        c.run(30, TWICE, "not next to one another",
            "text(0-1;1-2;2-3;1-0;) fault()=12 clearText() text(2-3;0-1;0-2;3-2;) fault()=12");
        c.run(30, TWICE, "one node of it is allowed again", "text(0-1;0-2;0-3;1-2;1-3;2-3;) fault()=MISSING lay()=6");
        c.run(30, TWICE, "what is in the graph does not count", "link(0,1,1) text(0-1;) fault()=MISSING lay()=1");
        c.run(30, "NOT_FOUND if it has none (also if it is empty)", "empty, one edge, and all 15",
            "fault()=MISSING text(0-1;) fault()=MISSING clearText() reset(6) text(" + Runs.ALL_EDGES + ") fault()=MISSING");
    }

    private void faultPosition() {
        c.run(30, POSITION, "the first character of the edge, whichever is wrong", "text(0-1;x-2;) fault()=4 clearText() "
            + "text(0-1;1x2;) fault()=4 clearText() text(0-1;1-x;) fault()=4 clearText() text(0-1;1-2x) fault()=4");
        c.run(30, "Returns the fault of the text", "the first of several",
            "text(0-1;0-1;x) fault()=4 clearText() text(x0-1;0-1;) fault()=0");
        String last = Runs.ALL_EDGES.substring(0, 56);
        c.run(30, POSITION, "the last edge of 60 characters", "reset(6) text(" + last + "1-0;) fault()=56 clearText() text("
            + last + "4-5:) fault()=56 clearText() text(" + last + ") fault()=MISSING text(4-5) fault()=56");
        c.run(30, "Returns the fault of the text", "it is told again, and depends on the nodes",
            "text(0-1;2-3;) fault()=MISSING fault()=MISSING reset(3) fault()=4 reset(2) fault()=4 undo() undo() fault()=MISSING");
    }
}
