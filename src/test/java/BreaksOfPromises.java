/** How the sentences of promises 1 to 30 could be broken. */
final class BreaksOfPromises {
    private final Breaks b;

    BreaksOfPromises(Breaks breaks) {
        b = breaks;
    }

    void run() {
        newObjectAndReset();
        link();
        lay();
        put();
        leave();
        order();
        release();
        beliefAndBeliefAfter();
        tell();
        turn();
        undo();
        count();
        neighbours();
        searcher();
        hide();
        flee();
        setNews();
        evader();
        ahead();
        planTurns();
        planOrder();
        planMoves();
        settles();
        leastSearchers();
        bestTurns();
        type();
        clearTextAndFault();
    }

    private void newObjectAndReset() {
        b.says(1, "Creates a graph of 4 nodes without edges, without searchers");
        b.brokenBy("FIRST_NODES = 4", "4", "5");
        b.brokenBy("public PursuitDesk()", "startAnew(FIRST_NODES);", "startAnew(FIRST_NODES); now.searchers = 1;");
        b.brokenBy("public PursuitDesk()", "startAnew(FIRST_NODES);", "startAnew(FIRST_NODES); now.paths |= Ways.edge(0, 1);");
        b.says(2, "Starts anew: a number of nodes, no edges, no searchers, no hidden evader, turn 0");
        b.brokenBy("void startAnew(", "nodes = newNodes;", "nodes = 4;");
        b.brokenBy("void startAnew(", "paths = Ways.stays(newNodes);", "paths |= Ways.stays(newNodes);");
        b.brokenBy("void startAnew(", "searchers = 0;", "");
        b.brokenBy("void startAnew(", "turn = 0;", "");
        b.brokenBy("void startAnew(", "evader.there = false;", "");
        b.says(2, "the period, the delay and the text stay");
        b.brokenBy("int reset(", "remember();", "remember(); now.period = 0;");
        b.brokenBy("int reset(", "remember();", "remember(); now.delay = 0;");
        b.brokenBy("int reset(", "remember();", "remember(); textLength = 0;");
        b.says(2, "`nodes`: 2 to 6");
        b.brokenBy("int reset(", "nodes < FEWEST_NODES", "nodes <= FEWEST_NODES");
        b.brokenBy("int reset(", "nodes > MOST_NODES", "nodes >= MOST_NODES");
        b.says(2, "Returns the previous number of nodes");
        b.brokenBy("int reset(", "return before;", "return nodes;");
        b.brokenBy("int reset(", "return before;", "return FIRST_NODES;");
        b.says(2, "INVALID_ARGUMENT if nodes is out of range");
        b.brokenBy("int reset(", "nodes < FEWEST_NODES", "nodes < FEWEST_NODES - 1");
        b.brokenBy("int reset(", "nodes > MOST_NODES", "nodes > MOST_NODES + 1");
        b.brokenBy("int reset(", "return INVALID_ARGUMENT;", "return NOT_POSSIBLE;");
    }

    private void link() {
        b.says(3, "Adds or removes an edge");
        b.brokenBy("int link(", "now.paths |= ", "now.paths = Ways.stays(now.nodes) | ");
        b.brokenBy("int link(", "now.cut(a, b);", "now.paths = Ways.stays(now.nodes);");
        b.brokenBy("int link(", "now.cut(a, b);", "");
        b.says(3, "`a`: a node");
        b.brokenBy("int link(", "!isNode(a)", "a < 0 || a >= now.nodes - 1");
        b.brokenBy("int link(", "!isNode(a)", "a < 1 || a >= now.nodes");
        b.says(3, "`b`: another node");
        b.brokenBy("int link(", "!isNode(b)", "b < 0 || b >= now.nodes - 1");
        b.brokenBy("int link(", "!isNode(b)", "b < 1 || b >= now.nodes");
        b.says(3, "`is`: 1 to add it, 0 to remove it");
        b.brokenBy("int link(", "is == 1", "is == 0");
        b.brokenBy("int link(", "is == 1", "true");
        b.brokenBy("int link(", "is < 0", "is < 1");
        b.says(3, "Returns 1 if there was an edge between them, otherwise 0");
        b.brokenBy("int link(", "? 1 : 0", "? 0 : 1");
        b.brokenBy("int link(", "return before;", "return is;");
        b.brokenBy("int link(", "return before;", "return 1 - is;");
        b.says(3, "INVALID_ARGUMENT if an argument is out of range or both nodes are the same");
        b.brokenBy("int link(", "|| a == b ", "");
        b.brokenBy("int link(", "is < 0 || ", "");
        b.brokenBy("int link(", " || is > 1", "");
        b.brokenBy("int link(", "!isNode(a)", "a < 0 || a > now.nodes");
        b.brokenBy("int link(", "!isNode(b)", "b < 0 || b > now.nodes");
        b.brokenBy("int link(", "return INVALID_ARGUMENT;", "return NOT_POSSIBLE;");
    }

    private void lay() {
        b.says(4, "Replaces all edges by those of the text.");
        b.brokenBy("void replaceEdges(", "Ways.stays(nodes) | edges", "paths | edges");
        b.brokenBy("void replaceEdges(", "Ways.stays(nodes) | edges", "Ways.stays(nodes)");
        b.says(4, "Searchers and the hidden evader stay");
        b.brokenBy("void replaceEdges(", "paths = ", "searchers = 0; paths = ");
        b.brokenBy("void replaceEdges(", "paths = ", "evader.there = false; paths = ");
        b.brokenBy("void replaceEdges(", "paths = ", "evader.caught = false; paths = ");
        b.brokenBy("void replaceEdges(", "paths = ", "turn = 0; paths = ");
        b.says(4, "all orders become the own nodes, and the belief is made anew");
        b.brokenBy("void replaceEdges(", "System.arraycopy(at, 0, aim, 0, MOST_SEARCHERS);", "");
        b.brokenBy("void replaceEdges(", "System.arraycopy(at, 0, aim, 0, MOST_SEARCHERS);",
            "System.arraycopy(aim, 0, at, 0, 3);");
        b.brokenBy("void replaceEdges(", "evader.aim = evader.node;", "");
        b.brokenBy("void replaceEdges(", "forgetBeliefs();", "");
        b.brokenBy("void replaceEdges(", "forgetBeliefs();", "beliefs.makeAnew(turn, (1 << nodes) - 1);");
        b.brokenBy("void replaceEdges(", "forgetBeliefs();",
            "beliefs.sets[Beliefs.slot(turn)] = (1 << nodes) - 1 & ~occupied();");
        b.says(4, "The text stays");
        b.brokenBy("int lay()", "return now.edges();", "textLength = 0; return now.edges();");
        b.says(4, "Returns the number of edges");
        b.brokenBy("int lay()", "return now.edges();", "return textLength;");
        b.brokenBy("int lay()", "return now.edges();", "return 2 * now.edges();");
        b.says(4, "NOT_POSSIBLE if the text has a fault");
        b.brokenBy("int lay()", "fault() != NOT_FOUND", "false");
        b.brokenBy("int lay()", "fault() != NOT_FOUND", "fault() == 0");
        b.brokenBy("int lay()", "return NOT_POSSIBLE;", "return NOT_FOUND;");
    }

    private void put() {
        b.says(5, "Puts a new searcher on a node.");
        b.brokenBy("void addSearcher(", "at[searchers] = node;", "at[searchers] = 0;");
        b.brokenBy("void addSearcher(", "searchers++;", "");
        b.says(5, "A hidden evader at this node is caught");
        b.brokenBy("void addSearcher(", "evader.catchAt(node, turn);", "");
        b.brokenBy("void addSearcher(", "evader.node == node", "evader.aim == node");
        b.brokenBy("void addSearcher(", " && evader.node == node", "");
        b.brokenBy("void addSearcher(", "evader.catchAt(node, turn);", "evader.catchAt(node, turn + 1);");
        b.brokenBy("void addSearcher(", "evader.node == node", "joins(evader.node, node)");
        b.says(5, "`node`: a node");
        b.brokenBy("int put(", "!isNode(node)", "node < 1 || node >= now.nodes");
        b.brokenBy("int put(", "!isNode(node)", "node < 0 || node >= now.nodes - 1");
        b.says(5, "Returns the number of the searcher");
        b.brokenBy("int put(", "return now.searchers - 1;", "return now.searchers;");
        b.brokenBy("int put(", "return now.searchers - 1;", "return node;");
        b.says(5, "INVALID_ARGUMENT");
        b.brokenBy("int put(", "!isNode(node)", "node < 0 || node > now.nodes");
        b.brokenBy("int put(", "return INVALID_ARGUMENT;", "return NOT_POSSIBLE;");
        b.says(5, "LIMIT_REACHED if there are 3");
        b.brokenBy("int put(", "now.searchers >= MOST_SEARCHERS", "now.searchers >= MOST_SEARCHERS - 1");
        b.brokenBy("int put(", "return LIMIT_REACHED;", "return NOT_POSSIBLE;");
    }

    private void leave() {
        b.says(6, "Removes the last searcher.");
        b.brokenBy("int leave()", "now.searchers--;", "now.searchers--; now.at[0] = now.at[1]; now.at[1] = now.at[2];");
        b.brokenBy("int leave()", "now.searchers--;", "now.searchers = 0;");
        b.brokenBy("long freeWays(", "i < searchers", "i < searchers || i == 0");
        b.says(6, "(The belief stays.)");
        b.brokenBy("int leave()", "now.searchers--;", "now.searchers--; now.forgetBeliefs();");
        b.brokenBy("int leave()", "now.searchers--;",
            "now.searchers--; now.beliefs.sets[Beliefs.slot(now.turn)] |= 1 << now.at[now.searchers];");
        b.says(6, "Returns the number of searchers that remain");
        b.brokenBy("int leave()", "return now.searchers;", "return now.searchers + 1;");
        b.brokenBy("int leave()", "return now.searchers;", "return now.at[now.searchers];");
        b.says(6, "NOT_POSSIBLE if there is none");
        b.brokenBy("int leave()", "now.searchers <= 0", "now.searchers <= 1");
        b.brokenBy("int leave()", "return NOT_POSSIBLE;", "return NOT_FOUND;");
    }

    private void order() {
        b.says(7, "Gives a searcher an order");
        b.brokenBy("int order(", "now.aim[searcher] = node;", "");
        b.brokenBy("int order(", "now.aim[searcher] = node;", "if (before == now.at[searcher]) { now.aim[searcher] = node; }");
        b.says(7, "`searcher`: number of the searcher");
        b.brokenBy("int order(", "!isSearcher(searcher)", "searcher < 0 || searcher >= now.searchers - 1");
        b.brokenBy("int order(", "!isSearcher(searcher)", "searcher < 1 || searcher >= now.searchers");
        b.brokenBy("int order(", "now.aim[searcher] = node;", "now.aim[now.searchers - 1] = node;");
        b.says(7, "`node`: a node");
        b.brokenBy("int order(", "!isNode(node)", "node < 1 || node >= now.nodes");
        b.brokenBy("int order(", "!isNode(node)", "node < 0 || node >= now.nodes - 1");
        b.says(7, "Returns the node of its previous order");
        b.brokenBy("int order(", "return before;", "return node;");
        b.brokenBy("int order(", "return before;", "return now.at[searcher];");
        b.brokenBy("int order(", "int before = now.aim[searcher];", "int before = now.aim[0];");
        b.says(7, "INVALID_ARGUMENT");
        b.brokenBy("int order(", "!isSearcher(searcher)", "searcher < 0 || searcher >= MOST_SEARCHERS");
        b.brokenBy("int order(", "!isNode(node)", "node < 0 || node > now.nodes");
        b.brokenBy("int order(", "return INVALID_ARGUMENT;", "return NOT_POSSIBLE;");
        b.says(7, "NOT_POSSIBLE if node is neither its node nor a neighbour of it");
        b.brokenBy("int order(", "!now.joins(now.at[searcher], node)", "false");
        b.brokenBy("int order(", "!now.joins(now.at[searcher], node)", "!now.joins(now.aim[searcher], node)");
        b.brokenBy("int order(", "!now.joins(now.at[searcher], node)",
            "node == now.at[searcher] || !now.joins(now.at[searcher], node)");
        b.brokenBy("int order(", "return NOT_POSSIBLE;", "return INVALID_ARGUMENT;");
    }

    private void release() {
        b.says(8, "Makes the belief anew: all nodes at which there is no searcher");
        b.brokenBy("int release()", "now.forgetBeliefs();", "");
        b.brokenBy("void forgetBeliefs()", " & ~occupied()", "");
        b.brokenBy("int release()", "now.forgetBeliefs();", "now.forgetBeliefs(); System.arraycopy(now.at, 0, now.aim, 0, 3);");
        b.brokenBy("int occupied()", "i < searchers", "i < MOST_SEARCHERS");
        b.says(8, "only this one is kept.");
        b.brokenBy("void makeAnew(", "kept = 1;", "");
        b.brokenBy("void makeAnew(", "kept = 1;", "kept = 2;");
        b.says(8, "A hidden evader stays");
        b.brokenBy("int release()", "remember();", "remember(); now.evader.there = false;");
        b.brokenBy("int release()", "remember();", "remember(); now.evader.aim = now.evader.node;");
        b.brokenBy("int release()", "remember();", "remember(); now.evader.caught = false;");
        b.brokenBy("int release()", "remember();", "remember(); now.evader.hiddenAt = 0;");
        b.says(8, "Returns the belief");
        b.brokenBy("int release()", "return belief();", "return (1 << now.nodes) - 1;");
        b.brokenBy("int release()", "return belief();", "return 0;");
    }

    private void beliefAndBeliefAfter() {
        b.says(9, "Returns the belief");
        b.brokenBy("int belief()", "now.beliefs.after(now.turn)", "((1 << now.nodes) - 1 & ~now.occupied())");
        b.brokenBy("int belief()", "now.beliefs.after(now.turn)", "(now.beliefs.after(now.turn) & 31)");
        b.says(10, "Returns a belief that is kept");
        b.brokenBy("int beliefAfter(", "now.beliefs.after(turn)", "belief()");
        b.brokenBy("int beliefAfter(", "now.beliefs.after(turn)", "now.beliefs.after(now.turn - turn)");
        b.says(10, "`turn`: a turn");
        b.brokenBy("int beliefAfter(", "turn < 0", "turn < 1");
        b.brokenBy("int beliefAfter(", "turn > now.turn", "turn >= now.turn");
        b.says(10, "Returns the belief after this turn");
        b.brokenBy("int beliefAfter(", "now.beliefs.after(turn)", "now.beliefs.after(turn + 1)");
        b.brokenBy("int beliefAfter(", "now.beliefs.after(turn)", "now.beliefs.after(Math.max(0, turn - 1))");
        b.says(10, "INVALID_ARGUMENT if turn is negative or greater than t");
        b.brokenBy("int beliefAfter(", "turn < 0 || ", "");
        b.brokenBy("int beliefAfter(", "turn > now.turn", "turn > now.turn + 1");
        b.brokenBy("int beliefAfter(", "return INVALID_ARGUMENT;", "return NOT_FOUND;");
        b.says(10, "NOT_FOUND if it is not kept");
        b.brokenBy("int beliefAfter(", "now.beliefs.keeps(turn)", "true");
        b.brokenBy("int beliefAfter(", ": NOT_FOUND", ": NOT_POSSIBLE");
        b.brokenBy("int beliefAfter(", "now.beliefs.keeps(turn)", "now.beliefs.keeps(turn + 1)");
        b.brokenBy("int beliefAfter(", "now.beliefs.keeps(turn)", "now.beliefs.keeps(turn - 1)");
    }

    private void tell() {
        b.says(11, "Tells news");
        b.brokenBy("int tell(", "now.beliefs.narrow(turn, node);", "");
        b.says(11, "`turn`: a turn, 0 to t");
        b.brokenBy("int tell(", "turn < 0", "turn < 1");
        b.brokenBy("int tell(", "turn > now.turn", "turn >= now.turn");
        b.says(11, "`node`: a node");
        b.brokenBy("int tell(", "!isNode(node)", "node < 1 || node >= now.nodes");
        b.brokenBy("int tell(", "!isNode(node)", "node < 0 || node >= now.nodes - 1");
        b.says(11, "Returns the present belief then");
        b.brokenBy("int tell(", "return belief();", "return now.beliefs.after(turn);");
        b.brokenBy("int tell(", "return belief();", "return 1 << node;");
        b.says(11, "INVALID_ARGUMENT if an argument is out of range");
        b.brokenBy("int tell(", "turn < 0 || ", "");
        b.brokenBy("int tell(", "turn > now.turn", "turn > now.turn + 1");
        b.brokenBy("int tell(", "!isNode(node)", "node < 0 || node > now.nodes");
        b.brokenBy("int tell(", "!isNode(node)", "node < -1 || node >= now.nodes");
        b.brokenBy("int tell(", "return INVALID_ARGUMENT;", "return NOT_POSSIBLE;");
        b.says(11, "NOT_POSSIBLE if the belief after this turn is kept, but does not contain node");
        b.brokenBy("int tell(", "!Ways.contains(now.beliefs.after(turn), node)", "false");
        b.brokenBy("int tell(", "return NOT_POSSIBLE;", "return NOT_FOUND;");
        b.brokenBy("int tell(", "now.beliefs.after(turn)", "now.beliefs.after(now.turn)");
        b.says(11, "NOT_FOUND if it is not kept");
        b.brokenBy("int tell(", "!now.beliefs.keeps(turn)", "false");
        b.brokenBy("int tell(", "!now.beliefs.keeps(turn)", "!now.beliefs.keeps(turn + 1)");
        b.brokenBy("int tell(", "!now.beliefs.keeps(turn)", "!now.beliefs.keeps(turn - 1)");
        b.brokenBy("int tell(", "return NOT_FOUND;", "return NOT_POSSIBLE;");
    }

    private void turn() {
        b.says(12, "Makes a turn");
        b.brokenBy("int turn()", "now.makeTurn();", "");
        b.brokenBy("int turn()", "now.makeTurn();", "now.makeTurn(); now.makeTurn();");
        b.says(12, "Returns the belief then (behind news that is given by itself)");
        b.brokenBy("int turn()", "now.giveNews();\n        return belief();",
            "int then = belief(); now.giveNews(); return then;");
        b.brokenBy("int turn()", "return belief();", "return now.beliefs.after(now.turn - 1);");
        b.brokenBy("int turn()", "return belief();", "return now.turn;");
        b.says(12, "LIMIT_REACHED if t is 10000");
        b.brokenBy("LAST_TURN = 10000", "10000", "9999");
        b.brokenBy("LAST_TURN = 10000", "10000", "10001");
        b.brokenBy("int turn()", "return LIMIT_REACHED;", "return NOT_POSSIBLE;");
    }

    private void undo() {
        b.says(13, "Restores the latest state of the history, which is removed from it");
        b.brokenBy("int undo()", "now.copyFrom(history[recorded]);", "");
        b.brokenBy("int undo()", "now.copyFrom(history[recorded]);", "now.copyFrom(history[0]);");
        b.brokenBy("int undo()", "recorded--;\n        now.copyFrom(history[recorded]);",
            "now.copyFrom(history[recorded - 1]);");
        b.says(13, "Returns the number of states that are left in the history");
        b.brokenBy("int undo()", "return recorded;", "return recorded + 1;");
        b.brokenBy("int undo()", "return recorded;", "return 0;");
        b.says(13, "NOT_POSSIBLE if it is empty");
        b.brokenBy("int undo()", "recorded <= 0", "recorded <= 1");
        b.brokenBy("int undo()", "return NOT_POSSIBLE;", "return NOT_FOUND;");
    }

    private void count() {
        String[] sentences = {"`what`: 0: N", "1: the number of edges", "2: K", "3: t", "4: the number of kept beliefs", "5: P",
            "6: D", "7: states in the history"};
        String[] answers = {"now.nodes", "now.edges()", "now.searchers", "now.turn", "now.beliefs.kept", "now.period",
            "now.delay",
            "recorded"};
        for (int what = 0; what < answers.length; what++) {
            b.says(14, sentences[what]);
            b.brokenBy("int count(", "return " + answers[what] + ";", "return " + answers[what] + " + 1;");
            b.brokenBy("int count(", "return " + answers[what] + ";", "return " + answers[(what + 1) % 8] + ";");
        }
        b.says(14, "Returns a number");
        b.brokenBy("int count(", "switch (what)", "switch (7 - what)");
        b.says(14, "Returns the number");
        b.brokenBy("int count(", "return now.nodes;", "return 0;");
        b.brokenBy("int count(", "return recorded;", "return INVALID_ARGUMENT;");
        b.says(14, "INVALID_ARGUMENT if what is out of range");
        b.brokenBy("int count(", "return INVALID_ARGUMENT;", "return NOT_FOUND;");
        b.brokenBy("int count(", "default:", "case 8: return 0; default:");
        b.brokenBy("int count(", "default:", "case -1: return 0; default:");
    }

    private void neighbours() {
        b.says(15, "Returns the neighbours of a node");
        b.brokenBy("int neighbours(", " & ~(1 << node)", "");
        b.brokenBy("int neighbours(", "Ways.from(now.paths, node)", "Ways.from(now.paths, 0)");
        b.says(15, "`node`: a node");
        b.brokenBy("int neighbours(", "!isNode(node)", "node < 1 || node >= now.nodes");
        b.brokenBy("int neighbours(", "!isNode(node)", "node < 0 || node >= now.nodes - 1");
        b.says(15, "Returns the set of its neighbours");
        b.brokenBy("int neighbours(", "return Ways.from(now.paths, node) & ~(1 << node);",
            "return Ways.spread(now.paths, Ways.from(now.paths, node)) & ~(1 << node);");
        b.brokenBy("int neighbours(", "return Ways.from(now.paths, node) & ~(1 << node);",
            "return Integer.bitCount(Ways.from(now.paths, node)) - 1;");
        b.says(15, "INVALID_ARGUMENT");
        b.brokenBy("int neighbours(", "!isNode(node)", "node < 0 || node > now.nodes");
        b.brokenBy("int neighbours(", "!isNode(node)", "node < -1 || node >= now.nodes");
        b.brokenBy("int neighbours(", "return INVALID_ARGUMENT;", "return 0;");
    }

    private void searcher() {
        b.says(16, "Returns a property of a searcher");
        b.brokenBy("int searcher(", "now.aim[searcher]", "now.aim[0]");
        b.brokenBy("int searcher(", "what == 0 ? now.at[searcher] : now.aim[searcher]", "now.at[searcher]");
        b.says(16, "`searcher`: number of the searcher");
        b.brokenBy("int searcher(", "!isSearcher(searcher)", "searcher < 1 || searcher >= now.searchers");
        b.brokenBy("int searcher(", "!isSearcher(searcher)", "searcher < 0 || searcher >= now.searchers - 1");
        b.brokenBy("int searcher(", "!isSearcher(searcher)", "searcher < 0 || searcher > 2");
        b.says(16, "`what`: 0: its node");
        b.brokenBy("int searcher(", "what == 0", "what == 1");
        b.brokenBy("int searcher(", "what < 0", "what < 1");
        b.says(16, "1: the node of its order");
        b.brokenBy("int searcher(", "what == 0", "what == 1");
        b.brokenBy("int searcher(", "what > 1", "what > 0");
        b.says(16, "Returns the node");
        b.brokenBy("int searcher(", "now.at[searcher]", "(now.at[searcher] + 1)");
        b.brokenBy("int searcher(", "now.at[searcher]", "(1 << now.at[searcher])");
        b.says(16, "INVALID_ARGUMENT");
        b.brokenBy("int searcher(", "!isSearcher(searcher)", "searcher < 0 || searcher >= MOST_SEARCHERS");
        b.brokenBy("int searcher(", "what < 0 || ", "");
        b.brokenBy("int searcher(", " || what > 1", "");
        b.brokenBy("int searcher(", "return INVALID_ARGUMENT;", "return NOT_FOUND;");
    }

    private void hide() {
        b.says(17, "Hides an evader (in place of one that there is).");
        b.brokenBy("int hide(", "now.evader.hideAt(node, now.turn);", "");
        b.brokenBy("int hide(", "now.evader.hideAt(node, now.turn);",
            "if (!now.evader.there) { now.evader.hideAt(node, now.turn); }");
        b.brokenBy("void hideAt(", "caught = false;", "");
        b.brokenBy("void hideAt(", "caughtAt = 0;", "");
        b.says(17, "It is hidden from this turn on");
        b.brokenBy("void hideAt(", "hiddenAt = turn;", "");
        b.brokenBy("void hideAt(", "hiddenAt = turn;", "hiddenAt = turn + 1;");
        b.says(17, "`node`: a node");
        b.brokenBy("int hide(", "!isNode(node)", "node < 1 || node >= now.nodes");
        b.brokenBy("int hide(", "!isNode(node)", "node < 0 || node >= now.nodes - 1");
        b.says(17, "Returns 1 if the belief contains the node, otherwise 0");
        b.brokenBy("int hide(", "? 1 : 0", "? 0 : 1");
        b.brokenBy("int hide(", "return Ways.contains(belief(), node) ? 1 : 0;", "return 1;");
        b.says(17, "INVALID_ARGUMENT");
        b.brokenBy("int hide(", "!isNode(node)", "node < 0 || node > now.nodes");
        b.brokenBy("int hide(", "return INVALID_ARGUMENT;", "return NOT_POSSIBLE;");
        b.says(17, "NOT_POSSIBLE if there is a searcher at the node");
        b.brokenBy("int hide(", "Ways.contains(now.occupied(), node)", "false");
        b.brokenBy("int hide(", "Ways.contains(now.occupied(), node)", "!Ways.contains(belief(), node)");
        b.brokenBy("int hide(", "return NOT_POSSIBLE;", "return 0;");
        b.brokenBy("int hide(", "Ways.contains(now.occupied(), node)", "now.searchers > 0 && now.at[0] == node");
    }

    private void flee() {
        b.says(18, "Gives the hidden evader an order");
        b.brokenBy("int flee(", "now.evader.aim = node;", "");
        b.brokenBy("int flee(", "now.evader.aim = node;", "if (before == now.evader.node) { now.evader.aim = node; }");
        b.says(18, "`node`: a node");
        b.brokenBy("int flee(", "!isNode(node)", "node < 1 || node >= now.nodes");
        b.brokenBy("int flee(", "!isNode(node)", "node < 0 || node >= now.nodes - 1");
        b.says(18, "Returns the node of its previous order");
        b.brokenBy("int flee(", "return before;", "return node;");
        b.brokenBy("int flee(", "return before;", "return now.evader.node;");
        b.says(18, "INVALID_ARGUMENT");
        b.brokenBy("int flee(", "!isNode(node)", "node < 0 || node > now.nodes");
        b.brokenBy("int flee(", "return INVALID_ARGUMENT;", "return NOT_POSSIBLE;");
        b.says(18, "NOT_POSSIBLE if there is none, it is caught, or node is neither its node nor a neighbour of it");
        b.brokenBy("int flee(", "!now.evader.isFree() || ", "");
        b.brokenBy("int flee(", "!now.evader.isFree()", "!now.evader.there");
        b.brokenBy("int flee(", "!now.evader.isFree()", "now.evader.caught");
        b.brokenBy("int flee(", " || !now.joins(now.evader.node, node)", "");
        b.brokenBy("int flee(", "!now.joins(now.evader.node, node)", "!now.joins(now.evader.aim, node)");
        b.brokenBy("int flee(", "return NOT_POSSIBLE;", "return NOT_FOUND;");
    }

    private void setNews() {
        b.says(19, "Sets the period and the delay");
        b.brokenBy("int setNews(", "now.period = period;", "");
        b.brokenBy("int setNews(", "now.delay = delay;", "");
        b.says(19, "`period`: 0 to 9");
        b.brokenBy("int setNews(", "period > LONGEST_PERIOD", "period >= LONGEST_PERIOD");
        b.brokenBy("int setNews(", "period < 0", "period < 1");
        b.says(19, "`delay`: 0 to 7");
        b.brokenBy("int setNews(", "delay > LONGEST_DELAY", "delay >= LONGEST_DELAY");
        b.brokenBy("int setNews(", "delay < 0", "delay < 1");
        b.says(19, "Returns 10 times the previous period plus the previous delay");
        b.brokenBy("int setNews(", "10 * now.period", "now.period");
        b.brokenBy("int setNews(", "return before;", "return 10 * now.period + now.delay;");
        b.brokenBy("int setNews(", "10 * now.period + now.delay", "10 * now.delay + now.period");
        b.says(19, "INVALID_ARGUMENT if an argument is out of range");
        b.brokenBy("int setNews(", "period > LONGEST_PERIOD", "period > LONGEST_PERIOD + 1");
        b.brokenBy("int setNews(", "period < 0 || ", "");
        b.brokenBy("int setNews(", "delay > LONGEST_DELAY", "delay > LONGEST_DELAY + 1");
        b.brokenBy("int setNews(", "delay < 0 || ", "");
        b.brokenBy("int setNews(", "return INVALID_ARGUMENT;", "return NOT_POSSIBLE;");
    }

    private void evader() {
        b.says(20, "Tells about the hidden evader");
        b.brokenBy("int property(", "switch (what)", "switch (4 - what)");
        b.says(20, "`what`: 0: its node (if it was caught in a turn, the one to which it went then)");
        b.brokenBy("int property(", "return node;", "return aim;");
        b.brokenBy("void go(", "catchAt(aim, turn)", "catchAt(node, turn)");
        b.brokenBy("int property(", "return node;", "return 1 << node;");
        b.says(20, "1: the node of its order");
        b.brokenBy("int property(", "return aim;", "return node;");
        b.says(20, "2: 1 if it is caught, otherwise 0");
        b.brokenBy("int property(", "? 1 : 0", "? 0 : 1");
        b.brokenBy("int property(", "caught ? 1 : 0", "0");
        b.says(20, "3: t when it was caught, 0 if it is not");
        b.brokenBy("void catchAt(", "caughtAt = turn;", "");
        b.brokenBy("int property(", "return caughtAt;", "return caught ? caughtAt : -1;");
        b.brokenBy("int property(", "return caughtAt;", "return hiddenAt;");
        b.brokenBy("void makeTurn()", "if (evader.isFree())",
            "if (evader.caught) { evader.caughtAt++; } else if (evader.there)");
        b.says(20, "4: t when it was hidden");
        b.brokenBy("int property(", "return hiddenAt;", "return caughtAt;");
        b.brokenBy("void catchAt(", "caughtAt = turn;", "caughtAt = turn; hiddenAt = turn;");
        b.brokenBy("int property(", "return hiddenAt;", "return 0;");
        b.says(20, "Returns the number");
        b.brokenBy("int evader(", "now.evader.property(what)", "what");
        b.says(20, "INVALID_ARGUMENT if what is out of range");
        b.brokenBy("int evader(", "what > 4", "what > 5");
        b.brokenBy("int evader(", "what < 0 || ", "");
        b.brokenBy("int evader(", "return INVALID_ARGUMENT;", "return NOT_FOUND;");
        b.says(20, "NOT_FOUND if there is none");
        b.brokenBy("int evader(", "now.evader.there ? now.evader.property(what) : NOT_FOUND", "now.evader.property(what)");
        b.brokenBy("int evader(", ": NOT_FOUND", ": NOT_POSSIBLE");
    }

    private void ahead() {
        b.says(21, "Returns the belief that there would be after a turn with the present orders, without any news");
        b.brokenBy("int ahead()", "now.freeWays(now.aim)", "now.freeWays(now.at)");
        b.brokenBy("int ahead()", "now.freeWays(now.aim)", "now.paths");
        b.brokenBy("int ahead()", "return",
            "if (now.period == 1 && now.evader.isFree()) { return 1 << now.evader.aim; } return");
        b.brokenBy("int ahead()", "return", "if (now.turn >= LAST_TURN) { return belief(); } return");
        b.says(21, "Returns the belief");
        b.brokenBy("int ahead()", "return", "if (belief() == 0) { return NOT_FOUND; } return");
    }

    private void planTurns() {
        b.says(22, "Returns the number of turns of the quickest plan");
        b.brokenBy("int planTurns()", "return plan.turns();", "return plan.turns() + 1;");
        b.brokenBy("int planTurns()", "return plan.turns();", "return Math.min(plan.turns(), 6);");
        b.says(22, "NOT_FOUND if there is no plan");
        b.brokenBy("int turns()", "return NOT_FOUND;", "return 0;");
        b.brokenBy("int planTurns()", "return plan.turns();", "return Math.max(plan.turns(), NOT_POSSIBLE);");
        b.brokenBy("void knowPlan()", "now.searchers", "Math.max(1, now.searchers)");
    }

    private void planOrder() {
        b.says(23, "Returns an order of the quickest plan");
        b.brokenBy("int planOrder(", "plan.nodeAfter(turn + 1, searcher)", "now.at[searcher]");
        b.brokenBy("int planOrder(", "knowPlan();", "");
        b.says(23, "`turn`: 0 for its first turn, and so on");
        b.brokenBy("int planOrder(", "plan.nodeAfter(turn + 1, searcher)", "plan.nodeAfter(turn, searcher)");
        b.brokenBy("int planOrder(", "turn >= plan.turns()", "turn >= plan.turns() - 1");
        b.says(23, "`searcher`: number of the searcher");
        b.brokenBy("int planOrder(", "!isSearcher(searcher)", "searcher < 0 || searcher >= now.searchers - 1");
        b.brokenBy("int planOrder(", "nodeAfter(turn + 1, searcher)", "nodeAfter(turn + 1, 0)");
        b.brokenBy("int planOrder(", "nodeAfter(turn + 1, searcher)", "nodeAfter(turn + 1, now.searchers - 1)");
        b.says(23, "Returns the node");
        b.brokenBy("int planOrder(", "return plan.nodeAfter", "return 1 << plan.nodeAfter");
        b.brokenBy("int planOrder(", "return plan.nodeAfter", "return 1 + plan.nodeAfter");
        b.says(23, "INVALID_ARGUMENT if turn is negative or there is no such searcher");
        b.brokenBy("int planOrder(", "turn < 0 || !isSearcher(searcher)", "!isSearcher(searcher)");
        b.brokenBy("int planOrder(", "!isSearcher(searcher)", "searcher < 0 || searcher > now.searchers");
        b.brokenBy("int planOrder(", "return INVALID_ARGUMENT;", "return NOT_FOUND;");
        b.says(23, "NOT_FOUND if there is no plan, or it has not so many turns");
        b.brokenBy("int planOrder(", "turn >= plan.turns()", "turn > plan.turns()");
        b.brokenBy("int planOrder(", "return NOT_FOUND;", "return NOT_POSSIBLE;");
        b.brokenBy("int planOrder(", "return NOT_FOUND;", "return planTurns() == NOT_FOUND ? NOT_POSSIBLE : NOT_FOUND;");
        b.brokenBy("int planOrder(", "return NOT_FOUND;", "return planTurns() == NOT_FOUND ? NOT_FOUND : INVALID_ARGUMENT;");
    }

    private void planMoves() {
        b.says(24, "Returns the least number of moves of all plans");
        b.brokenBy("int planMoves()", "return cheapest", "return planTurns() + 0 * cheapest");
        b.brokenBy("int planMoves()", "return cheapest", "return 1 + cheapest");
        b.brokenBy("int planMoves()", "now.at, belief()", "now.at, (1 << now.nodes) - 1 & ~now.occupied()");
        b.brokenBy("void arrive(int situation, int moves) {\n            // A turn", "known > price + moves", "false");
        b.says(24, "NOT_FOUND if there is no plan");
        b.brokenBy("int fewestMoves(", "return NOT_FOUND;", "return 0;");
        b.brokenBy("int fewestMoves(", "return NOT_FOUND;", "return NOT_POSSIBLE;");
    }

    private void settles() {
        b.says(25, "Returns the number of turns after which the belief does not change any more by further turns");
        b.brokenBy("int settles()", "now.freeWays(now.at)", "now.freeWays(now.aim)");
        b.brokenBy("int settles()", "now.freeWays(now.at)", "now.paths");
        b.brokenBy("int settles()", "return turns;", "return turns + 1;");
        b.brokenBy("int settles()", "return turns;", "return Math.min(1, turns);");
        b.brokenBy("int settles()", "return turns;", "return now.period > 0 ? 0 : turns;");
        b.brokenBy("int settles()", "return turns;", "return Math.min(LAST_TURN - now.turn, turns);");
        b.says(25, "Returns the number of turns, 0 or more");
        b.brokenBy("int settles()", "return turns;", "return Math.max(1, turns);");
        b.brokenBy("int settles()", "return turns;", "return belief == 0 ? NOT_FOUND : turns;");
    }

    private void leastSearchers() {
        b.says(26, "Returns the least number of searchers with which there is a plan, for some nodes at which they begin");
        b.brokenBy("int leastSearchers()", "int searchers = 1;", "int searchers = Math.max(1, now.searchers);");
        b.brokenBy("int leastSearchers()", "for (",
            "if (planTurns() == NOT_FOUND && now.searchers > 0) { return NOT_FOUND; } for (");
        b.brokenBy("void enterStart(", "(1 << nodes) - 1", "1");
        b.brokenBy("void enterAllStarts()", "places < bound", "places < BELIEFS");
        b.brokenBy("int turnsFromBestStart(", "now.paths", "Ways.stays(now.nodes)");
        b.brokenBy("void enterStart(", "(1 << nodes) - 1", "(1 << nodes) - 2");
        b.says(26, "Returns the number, 1 to 3");
        b.brokenBy("int leastSearchers()", "int searchers = 1;", "int searchers = 2;");
        b.brokenBy("int leastSearchers()", "searchers <= MOST_SEARCHERS", "searchers < MOST_SEARCHERS");
        b.brokenBy("int leastSearchers()", "return searchers;", "return searchers - 1;");
        b.says(26, "NOT_FOUND if 3 are not enough");
        b.brokenBy("int leastSearchers()", "return NOT_FOUND;", "return 4;");
        b.brokenBy("int leastSearchers()", "return NOT_FOUND;", "return NOT_POSSIBLE;");
    }

    private void bestTurns() {
        b.says(27, "Returns the least number of turns of all plans of a number of searchers, for nodes that are best");
        b.brokenBy("int bestTurns(", "return turnsFromBestStart(searchers);",
            "return searchers == now.searchers ? planTurns() : turnsFromBestStart(searchers);");
        b.brokenBy("int bestTurns(", "return turnsFromBestStart(searchers);",
            "return belief() == 0 ? 0 : turnsFromBestStart(searchers);");
        b.brokenBy("void enterStart(", "(1 << nodes) - 1", "(1 << nodes) - 2");
        b.brokenBy("void enterAllStarts()", "places < bound", "places < BELIEFS");
        b.says(27, "`searchers`: 1 to 3");
        b.brokenBy("int bestTurns(", "searchers < 1", "searchers < 2");
        b.brokenBy("int bestTurns(", "searchers > MOST_SEARCHERS", "searchers >= MOST_SEARCHERS");
        b.brokenBy("int bestTurns(", "return turnsFromBestStart(searchers);",
            "return turnsFromBestStart(Math.min(2, searchers));");
        b.says(27, "Returns the number of turns");
        b.brokenBy("int bestTurns(", "return turnsFromBestStart(searchers);", "return turnsFromBestStart(searchers) + 1;");
        b.brokenBy("int bestTurns(", "return turnsFromBestStart(searchers);",
            "return searchers >= now.nodes ? NOT_FOUND : turnsFromBestStart(searchers);");
        b.says(27, "INVALID_ARGUMENT if searchers is out of range");
        b.brokenBy("int bestTurns(", "searchers < 1", "searchers < 0");
        b.brokenBy("int bestTurns(", "searchers > MOST_SEARCHERS", "searchers > MOST_SEARCHERS + 1");
        b.brokenBy("int bestTurns(", "return INVALID_ARGUMENT;", "return NOT_FOUND;");
        b.says(27, "NOT_FOUND if there is no plan");
        b.brokenBy("int turns()", "return NOT_FOUND;", "return NOT_POSSIBLE;");
        b.brokenBy("int turns()", "return NOT_FOUND;", "return 0;");
    }

    private void type() {
        b.says(28, "Appends a character to the text");
        b.brokenBy("int type(", "text[textLength] = (char) character;", "text[textLength] = '0';");
        b.brokenBy("int type(", "text[textLength] = (char) character;",
            "for (int i = textLength; i > 0; i--) { text[i] = text[i - 1]; } text[0] = (char) character;");
        b.says(28, "`character`: 32 to 126");
        b.brokenBy("int type(", "character < FIRST_CHARACTER", "character <= FIRST_CHARACTER");
        b.brokenBy("int type(", "character > LAST_CHARACTER", "character >= LAST_CHARACTER");
        b.says(28, "Returns the length of the text");
        b.brokenBy("int type(", "return textLength;", "return textLength - 1;");
        b.brokenBy("int type(", "return textLength;", "return character;");
        b.says(28, "INVALID_ARGUMENT if character is out of range");
        b.brokenBy("int type(", "character < FIRST_CHARACTER", "character < FIRST_CHARACTER - 1");
        b.brokenBy("int type(", "character > LAST_CHARACTER", "character > LAST_CHARACTER + 1");
        b.brokenBy("int type(", "character < FIRST_CHARACTER || character > LAST_CHARACTER",
            "(char) character < FIRST_CHARACTER || (char) character > LAST_CHARACTER");
        b.brokenBy("int type(", "return INVALID_ARGUMENT;", "return NOT_POSSIBLE;");
        b.says(28, "LIMIT_REACHED if it has 60 characters");
        b.brokenBy("int type(", "textLength >= LONGEST_TEXT", "textLength >= LONGEST_TEXT - 1");
        b.brokenBy("int type(", "return LIMIT_REACHED;", "return textLength;");
        b.brokenBy("LONGEST_TEXT = 60", "60", "61");
    }

    private void clearTextAndFault() {
        b.says(29, "Empties the text");
        b.brokenBy("int clearText()", "textLength = 0;", "");
        b.brokenBy("int clearText()", "textLength = 0;", "textLength = Math.max(0, textLength - 1);");
        b.brokenBy("int clearText()", "textLength = 0;", "textLength = 0; now.paths = Ways.stays(now.nodes);");
        b.says(29, "Returns the length it had");
        b.brokenBy("int clearText()", "return before;", "return textLength;");
        b.brokenBy("int clearText()", "return before;", "return before + 1;");
        b.says(30, "Returns the fault of the text");
        b.brokenBy("int fault()", "return start;", "return start + 1;");
        b.brokenBy("int fault()", "return start;", "textLength = start; return start;");
        b.brokenBy("boolean isNode(", "now.nodes", "4");
        b.says(30, "NOT_FOUND if it has none (also if it is empty)");
        b.brokenBy("int fault()", "return NOT_FOUND;", "return textLength;");
        b.brokenBy("int fault()", "return NOT_FOUND;", "return NOT_POSSIBLE;");
        b.brokenBy("int fault()", "return NOT_FOUND;", "return textLength == 0 ? 0 : NOT_FOUND;");
    }
}
