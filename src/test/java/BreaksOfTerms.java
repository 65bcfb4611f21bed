/** How the sentences of "Terms" could be broken, and that of how often an object is used. */
final class BreaksOfTerms {
    private final Breaks b;

    BreaksOfTerms(Breaks breaks) {
        b = breaks;
    }

    void run() {
        nodesAndEdges();
        searchers();
        orders();
        turns();
        capture();
        belief();
        keptBeliefs();
        news();
        hiddenEvader();
        newsByItself();
        plans();
        quickestPlan();
        texts();
        changes();
        history();
        historyOfBeliefsAndEvader();
        errors();
        constants();
        nothingChanges();
    }

    private void nodesAndEdges() {
        b.says(1, "An object is used for at most 512 calls");
        b.brokenBy("int turn()", "now.turn >= LAST_TURN", "now.turn >= 510");
        b.says(1, "There are N nodes (2 to 6, initially 4)");
        b.brokenBy("FIRST_NODES = 4", "4", "5");
        b.brokenBy("FIRST_NODES = 4", "4", "3");
        b.brokenBy("int reset(", "nodes > MOST_NODES", "nodes >= MOST_NODES");
        b.brokenBy("int reset(", "nodes < FEWEST_NODES", "nodes <= FEWEST_NODES");
        b.brokenBy("boolean isNode(", "node >= 0", "node >= 1");
        b.brokenBy("int link(", "now.paths |= ", "now.paths ^= ");
        b.brokenBy("int edges()", "/ 2", "/ 1");
        b.says(1, "initially there are none.");
        b.brokenBy("void startAnew(", "Ways.stays(newNodes)", "Ways.stays(newNodes) | Ways.edge(0, 1)");
        b.says(15, "Two nodes are neighbours if there is an edge between them");
        b.brokenBy("static long edge(", "way(a, b) | way(b, a)", "way(a, b)");
        b.brokenBy("int neighbours(", " & ~(1 << node)", "");
        b.brokenBy("int neighbours(", "Ways.from(now.paths, node)", "((1 << now.nodes) - 1)");
    }

    private void searchers() {
        b.says(1, "There are K searchers (0 to 3, initially 0)");
        b.brokenBy("void startAnew(", "searchers = 0", "searchers = 1");
        b.brokenBy("int put(", ">= MOST_SEARCHERS", ">= MOST_SEARCHERS - 1");
        b.brokenBy("int put(", "return now.searchers - 1", "return now.searchers");
        b.says(5, "several can be at the same node.");
        b.brokenBy("int put(", "now.searchers >= MOST_SEARCHERS", "now.searchers >= 3 || Ways.contains(now.occupied(), node)");
        b.brokenBy("void makeTurn()", "turn++;", "turn++; if (searchers > 1 && aim[0] == aim[1]) { aim[1] = at[1]; }");
    }

    private void orders() {
        b.says(7, "Each searcher has an order, which is its own node or a neighbour of it");
        b.brokenBy("void addSearcher(", "aim[searchers] = node", "aim[searchers] = 0");
        b.brokenBy("int order(", "!now.joins(now.at[searcher], node)", "false");
        b.brokenBy("int order(", "now.aim[searcher] = node", "now.aim[0] = node");
        b.says(7, "it goes there in the next turn.");
        b.brokenBy("int order(", "now.aim[searcher] = node;", "now.aim[searcher] = node; now.at[searcher] = node;");
        b.brokenBy("void makeTurn()", "System.arraycopy(aim, 0, at, 0, MOST_SEARCHERS);", "");
        b.brokenBy("void makeTurn()", "aim, 0, at, 0, MOST_SEARCHERS);", "aim, 0, at, 0, 3); aim[0] = 1 + (aim[0] & 1);");
        b.says(5, "When a searcher is put on a node, and after each turn, its order is the node at which it is.");
        b.brokenBy("void addSearcher(", "aim[searchers] = node;", "");
        b.brokenBy("void makeTurn()", "aim, 0, at, 0, MOST_SEARCHERS);", "aim, 0, at, 0, 3); aim[0] = 0;");
        b.brokenBy("void makeTurn()", "aim, 0, at, 0, MOST_SEARCHERS);", "aim, 0, at, 0, 3); aim[2] = 1;");
        b.says(3, "When an edge is removed along which a searcher (or the hidden evader) would go");
        b.brokenBy("void cut(", "aim[i] = at[i];", "");
        b.brokenBy("void cut(", "i < searchers", "i < searchers - 1");
        b.brokenBy("void cut(", "int i = 0", "int i = 1");
        b.brokenBy("void cut(", "!joins(at[i], aim[i])", "true");
        b.brokenBy("void cut(", "!joins(at[i], aim[i])", "at[i] == a && aim[i] == b");
        b.brokenBy("void cut(", "!joins(at[i], aim[i])", "at[i] == b && aim[i] == a");
        b.brokenBy("void cut(", "evader.aim = evader.node;", "");
        b.brokenBy("void cut(", "evader.there && !joins(evader.node, evader.aim)", "evader.there");
        b.brokenBy("void cut(", "aim[i] = at[i];", "at[i] = aim[i];");
    }

    private void turns() {
        b.says(1, "The turn counter t is initially 0.");
        b.brokenBy("void startAnew(", "turn = 0", "turn = 1");
        b.says(12, "In a turn it grows by 1, all searchers go where their orders say, and the evader goes, at the same time");
        b.brokenBy("void makeTurn()", "turn++;", "turn += 2;");
        b.brokenBy("void makeTurn()", "turn++;", "");
        b.brokenBy("void makeTurn()", "at, 0, MOST_SEARCHERS", "at, 0, MOST_SEARCHERS - 1");
        b.brokenBy("void makeTurn()", "aim, 0, at, 0, MOST_SEARCHERS", "aim, 1, at, 1, MOST_SEARCHERS - 1");
        b.brokenBy("void makeTurn()", "evader.go(ways, turn);", "");
    }

    private void capture() {
        b.says(12, "The evader is caught in a turn if a searcher is at its new node then, or if it goes along an edge");
        b.brokenBy("static long closed(", "(ALL_TO_0 << to) | way(to, from)", "(ALL_TO_0 << to)");
        b.brokenBy("static long closed(", "(ALL_TO_0 << to) | way(to, from)", "way(to, from) | way(to, to)");
        b.brokenBy("static long closed(", "(ALL_TO_0 << to) | way(to, from)", "way(to, from)");
        b.brokenBy("static long closed(", "(ALL_TO_0 << to)", "(ALL_TO_0 << to) | (ALL_TO_0 << from)");
        b.brokenBy("static long closed(", "way(to, from)", "(ROW << (MOST_NODES * from))");
        b.brokenBy("static long closed(", "way(to, from)", "(ROW << (MOST_NODES * to))");
        b.brokenBy("long freeWays(", "i < searchers", "i < searchers - 1");
        b.brokenBy("long freeWays(", "i < searchers", "i < searchers && i < 2");
        b.brokenBy("long freeWays(", "int i = 0", "int i = 1");
        b.brokenBy("long freeWays(", "i < searchers", "i < 2");
        b.brokenBy("void go(", "== 0", "!= 0");
        b.brokenBy("void go(", "catchAt(aim, turn);", "standAt(aim, turn);");
        b.says(12, "(Once it is caught, it stays so, and its order is its node.)");
        b.brokenBy("void makeTurn()", "if (evader.isFree())", "evader.caught = false; if (evader.there)");
        b.brokenBy("void makeTurn()", "if (evader.isFree())", "if (evader.there)");
        b.brokenBy("void catchAt(", "standAt(newNode, turn);", "node = newNode;");
        b.brokenBy("void addSearcher(", "evader.isFree()", "evader.there");
        b.brokenBy("void forgetBeliefs()", "beliefs.makeAnew", "evader.caught = false; beliefs.makeAnew");
        b.brokenBy("int leave()", "now.searchers--;", "now.searchers--; now.evader.caught = false;");
        b.brokenBy("int flee(", "!now.evader.isFree()", "!now.evader.there");
    }

    private void belief() {
        b.says(9, "The belief is the set of all nodes at which the evader can be, as far as is known: initially");
        b.brokenBy("void forgetBeliefs()", " & ~occupied()", "");
        b.brokenBy("void forgetBeliefs()", "(1 << nodes) - 1", "(1 << nodes) - 2");
        b.brokenBy("void replaceEdges(", "forgetBeliefs();", "");
        b.brokenBy("int release()", "now.forgetBeliefs();", "");
        b.brokenBy("void startAnew(", "forgetBeliefs();", "beliefs.makeAnew(0, 15);");
        b.brokenBy("void startAnew(", "forgetBeliefs();", "beliefs.makeAnew(0, newNodes == 4 ? 0 : (1 << newNodes) - 1);");
        b.brokenBy("int occupied()", "set |= 1 << at[i];", "set |= 1 << aim[i] | 2;");
        b.says(12, "After a turn, a node is in the belief if an evader could have come there, without being caught");
        b.brokenBy("long freeWays(", "long ways = paths;", "long ways = paths & ~Ways.stays(nodes);");
        b.brokenBy("long freeWays(", "ways &= ~Ways.closed(at[i], targets[i]);", "");
        b.brokenBy("void extend(", "Ways.spread(ways, after(last))", "Ways.spread(ways, Ways.spread(ways, after(last)))");
        b.brokenBy("void extend(", "Ways.spread(ways, after(last))", "Ways.ends(ways)");
        b.brokenBy("void extend(", "Ways.spread(ways, after(last))", "after(last)");
        b.brokenBy("void extend(", "Ways.spread(ways, after(last))", "Ways.spread(ways, after(last)) & after(last)");
        b.brokenBy("static long closed(", "(ALL_TO_0 << to)", "(ALL_TO_0 << to) | (ALL_TO_0 << from)");
        b.brokenBy("static long closed(", " | way(to, from)", "");
        b.brokenBy("static long closed(", "(ALL_TO_0 << to)", "way(to, to)");
        b.brokenBy("long freeWays(", "i < searchers", "i < searchers && i < 2");
        b.brokenBy("long freeWays(", "int i = 0", "int i = searchers > 1 ? 1 : 0");
        b.says(5, "When a searcher is put on a node, this node is not in the belief any more.");
        b.brokenBy("void addSearcher(", "beliefs.leaveOut(node);", "");
        b.brokenBy("void leaveOut(", "&= ~(1 << node)", "^= 1 << node");
        b.brokenBy("void leaveOut(", "&= ~(1 << node)", "&= ~(3 << node)");
        b.brokenBy("void addSearcher(", "beliefs.leaveOut(node);", "forgetBeliefs();");
        b.says(3, "Edges that are changed have an effect from the next turn on");
        String atOnce = "now.beliefs.sets[Beliefs.slot(now.turn)] = Ways.spread(now.paths, now.beliefs.after(now.turn));";
        b.brokenBy("int link(", "now.paths |= Ways.edge(a, b);", "now.paths |= Ways.edge(a, b); " + atOnce);
        b.brokenBy("int link(", "now.cut(a, b);", "now.cut(a, b); now.forgetBeliefs();");
        b.brokenBy("int link(", "now.cut(a, b);",
            "now.cut(a, b); for (int i = 0; i < 8; i++) { now.beliefs.waysInto[i] &= ~Ways.edge(a, b); }");
        b.brokenBy("int link(", "now.paths |= Ways.edge(a, b);", "if (now.turn > 0) { now.paths |= Ways.edge(a, b); }");
        b.brokenBy("int link(", "now.paths |= Ways.edge(a, b);",
            "now.paths |= Ways.edge(a, b); for (int i = 0; i < 8; i++) { now.beliefs.waysInto[i] |= Ways.edge(a, b); }");
    }

    private void keptBeliefs() {
        b.says(10, "Of the beliefs the latest 8 are kept, the present one and those after the last seven turns");
        b.brokenBy("void extend(", "MOST_KEPT)", "MOST_KEPT - 1)");
        b.brokenBy("void extend(", "Math.min(kept + 1, MOST_KEPT)", "kept + 1");
        b.brokenBy("void extend(", "Math.min(kept + 1, MOST_KEPT)", "MOST_KEPT");
        b.brokenBy("boolean keeps(", "turn > last - kept", "turn >= last - kept");
        b.brokenBy("boolean keeps(", "turn > last - kept", "turn > last - kept + 1");
        b.brokenBy("boolean keeps(", "turn > last - kept", "true");
        b.brokenBy("void makeAnew(", "kept = 1;", "kept = Math.max(kept, 1);");
        b.brokenBy("void makeAnew(", "kept = 1;", "kept = MOST_KEPT;");
        b.brokenBy("static int slot(", "MOST_KEPT - 1", "3");
        b.says(5, "putting a searcher changes the present one only).");
        b.brokenBy("void leaveOut(", "sets[slot(last)] &= ~(1 << node);",
            "for (int i = 0; i < MOST_KEPT; i++) { sets[i] &= ~(1 << node); }");
        b.brokenBy("void leaveOut(", "slot(last)", "slot(Math.max(0, last - 1))");
        b.brokenBy("void leaveOut(", "sets[slot(last)]", "kept = 1; sets[slot(last)]");
    }

    private void news() {
        b.says(11, "News says at which node the evader was after an earlier turn, or now.");
        b.brokenBy("int tell(", "turn > now.turn", "turn >= now.turn");
        b.brokenBy("int tell(", "turn > now.turn", "turn != now.turn");
        b.brokenBy("int tell(", "turn < 0", "turn <= 0");
        b.says(11, "News for a turn says that the belief after it has only this node, if it was in it");
        b.brokenBy("void narrow(", "sets[slot(turn)] = 1 << node;", "");
        b.brokenBy("void narrow(", "sets[slot(turn)] = 1 << node;", "sets[slot(turn)] &= ~(1 << node);");
        b.brokenBy("void narrow(", "sets[slot(turn)] = 1 << node;", "for (int i = 0; i < 8; i++) { sets[i] &= 1 << node; }");
        b.brokenBy("int tell(", "now.beliefs.narrow(turn, node)", "now.beliefs.narrow(now.turn, node)");
        b.says(11, "from this, the beliefs after all later turns up to now are computed anew");
        b.brokenBy("void narrow(", "later <= last", "later < last");
        b.brokenBy("void narrow(", "later <= last", "later <= turn + 1 && later <= last");
        b.brokenBy("void narrow(", "later = turn + 1", "later = turn + 2");
        b.brokenBy("void narrow(", "later <= last", "later < turn");
        b.brokenBy("void narrow(", "waysInto[slot(later)]", "waysInto[slot(last)]");
        b.brokenBy("void narrow(", "waysInto[slot(later)]", "waysInto[slot(turn + 1)]");
        b.brokenBy("void extend(", "waysInto[slot(last)] = ways;", "waysInto[slot(last)] |= ways;");
        b.brokenBy("int tell(", "remember();",
            "remember(); for (int i = 0; i < 8; i++) { now.beliefs.waysInto[i] = now.freeWays(now.aim); }");
        b.brokenBy("int tell(", "remember();",
            "remember(); for (int i = 0; i < 8; i++) { now.beliefs.waysInto[i] = now.freeWays(now.at); }");
        b.brokenBy("int tell(", "remember();",
            "remember(); for (int i = 0; i < 8; i++) { now.beliefs.waysInto[i] &= now.paths; }");
        b.says(11, "of these, only the nodes that were in them before remain.");
        b.brokenBy("void narrow(", "sets[slot(later)] &= ", "sets[slot(later)] = ");
        b.brokenBy("void narrow(", "sets[slot(later)] &= ", "sets[slot(later)] |= ");
        b.says(11, "If the node was not in the belief, nothing becomes different");
        b.brokenBy("void narrow(", "!Ways.contains(after(turn), node)", "false");
        b.brokenBy("void narrow(", "return;", "kept = last - turn; return;");
        b.brokenBy("int tell(", "return NOT_POSSIBLE;", "remember(); return NOT_POSSIBLE;");
    }

    private void hiddenEvader() {
        b.says(17, "There can be a hidden evader, at a node");
        b.brokenBy("void hideAt(", "there = true;", "");
        b.brokenBy("void standAt(", "node = newNode;", "");
        b.says(1, "initially there is none.");
        b.brokenBy("void startAnew(", "evader.there = false", "evader.there = true");
        b.says(18, "It has an order, too, which is its node or a neighbour of it");
        b.brokenBy("int flee(", "now.evader.aim = node;", "");
        b.brokenBy("int flee(", "!now.joins(now.evader.node, node)", "Ways.contains(now.occupied(), node)");
        b.brokenBy("int flee(", "!now.joins(now.evader.node, node)", "false");
        b.brokenBy("int flee(", "!now.joins(now.evader.node, node)", "now.evader.node == node");
        b.says(17, "it is its node when it is hidden, and after each turn.");
        b.brokenBy("void standAt(", "aim = newNode;", "");
        b.brokenBy("void hideAt(", "standAt(newNode, turn);", "standAt(newNode, turn); aim = 0;");
        b.brokenBy("void go(", "standAt(aim, turn);", "int back = node; standAt(aim, turn); aim = back;");
        b.says(12, "It is caught as described.");
        b.brokenBy("void go(", "catchAt(aim, turn)", "standAt(aim, turn)");
        b.brokenBy("void hideAt(", "caught = false;", "caught = true;");
        b.brokenBy("int flee(", "now.evader.aim = node;",
            "now.evader.aim = node; now.evader.caught = Ways.contains(now.occupied(), node);");
    }

    private void newsByItself() {
        b.says(19, "While it is there, not caught, and the period P is not 0, news is given by itself");
        b.brokenBy("void giveNews()", "!evader.isFree()", "false");
        b.brokenBy("void giveNews()", "!evader.isFree()", "!evader.there");
        b.brokenBy("void giveNews()", "period <= 0 || turn % period != 0", "turn % Math.max(1, period) != 0");
        b.brokenBy("void giveNews()", "turn % period != 0", "false");
        b.brokenBy("void giveNews()", "turn % period != 0", "(turn - evader.hiddenAt) % period != 0");
        b.brokenBy("void giveNews()", "turn % period != 0", "(turn - delay) % period != 0");
        b.brokenBy("void giveNews()", "turn % period != 0", "turn != period");
        b.brokenBy("void giveNews()", "turn < delay", "turn <= delay");
        b.brokenBy("void giveNews()", "int told = turn - delay", "int told = turn");
        b.brokenBy("void giveNews()",
            "|| turn < delay) {\n                return;\n            }\n            int told = turn - delay",
            ") { return; } int told = Math.max(0, turn - delay)");
        b.brokenBy("void giveNews()", "beliefs.keeps(told) && ", "");
        b.brokenBy("void giveNews()", "beliefs.keeps(told)", "beliefs.keeps(told - 1)");
        b.brokenBy("void giveNews()", "evader.hiddenAt <= told", "evader.hiddenAt < told");
        b.brokenBy("void giveNews()", " && evader.hiddenAt <= told", "");
        b.brokenBy("void giveNews()", "evader.nodeAfter(told)", "evader.node");
        b.brokenBy("int turn()", "now.giveNews();", "");
        b.brokenBy("int turn()", "now.makeTurn();\n        now.giveNews();", "now.giveNews(); now.makeTurn();");
        b.brokenBy("int release()", "now.forgetBeliefs();", "now.forgetBeliefs(); now.turn++; now.turn--; now.giveNews();");
        b.brokenBy("void hideAt(", "standAt(newNode, turn);", "node = newNode; aim = newNode;");
        b.says(1, "Initially P is 0 and D is 0");
        b.brokenBy("public PursuitDesk()", "now.startAnew(FIRST_NODES);", "now.startAnew(FIRST_NODES); now.period = 1;");
        b.brokenBy("public PursuitDesk()", "now.startAnew(FIRST_NODES);", "now.startAnew(FIRST_NODES); now.delay = 1;");
    }

    private void plans() {
        b.says(22, "A plan is a sequence of turns, with orders for all searchers in each of them, after which the belief");
        b.brokenBy("int planTurns()", "return plan.turns();",
            "return now.turn + plan.turns() > LAST_TURN ? NOT_FOUND : plan.turns();");
        b.brokenBy("void knowPlan()", "now.at", "now.aim");
        b.brokenBy("void knowPlan()", "belief()", "(now.evader.isFree() ? 1 << now.evader.node : belief())");
        b.brokenBy("void knowPlan()", "belief()", "(now.period > 0 ? 0 : belief())");
        b.brokenBy("void knowPlan()", "belief()", "((1 << now.nodes) - 1 & ~now.occupied())");
        b.brokenBy("int planMoves()", "now.at, belief()", "now.at, now.period > 0 ? 0 : belief()");
        b.brokenBy("int planMoves()", "now.at", "now.aim");
        b.brokenBy("int planMoves()", "belief()", "(now.evader.isFree() ? 1 << now.evader.node : belief())");
        b.brokenBy("int undo()", "planIsKnown = false;", "");
        b.brokenBy("void remember()", "planIsKnown = false;", "");
        b.brokenBy("void knowPlan()", "now.searchers", "Math.min(now.searchers, 1)");
        b.says(24, "A move is an order by which a searcher leaves its node.");
        b.brokenBy("void giveOrders(", "to == from ? moves : moves + 1", "moves + 1");
        b.brokenBy("void giveOrders(", "to == from ? moves : moves + 1", "to == from ? moves : 1");
    }

    private void quickestPlan() {
        b.says(22, "The quickest plan is the one with the fewest turns");
        b.brokenBy("int planTurns()", "return plan.turns();", "return planMoves();");
        b.brokenBy("void enter(", "cameFrom[situation] != NONE", "cameFrom[situation] != NONE || entered > 2 && entered < 5");
        b.says(23, "of several the one in whose first turn searcher 0 goes to the lowest node");
        b.brokenBy("void giveOrders(", "int to = 0; to < nodes; to++", "int to = nodes - 1; to >= 0; to--");
        b.brokenBy("void enter(", "end != NONE || ", "");
        b.brokenBy("void giveOrders(", "int to = 0; to < nodes; to++", "int to = searcher == 0 ? 0 : nodes - 1; "
            + "searcher == 0 ? to < nodes : to >= 0; to += searcher == 0 ? 1 : -1");
        b.brokenBy("void giveOrders(", "int to = 0; to < nodes; to++", "int to = searcher < 2 ? 0 : nodes - 1; "
            + "searcher < 2 ? to < nodes : to >= 0; to += searcher < 2 ? 1 : -1");
        b.brokenBy("void giveOrders(", "int to = 0; to < nodes; to++", "int to = searcher > 0 ? 0 : nodes - 1; "
            + "searcher > 0 ? to < nodes : to >= 0; to += searcher > 0 ? 1 : -1");
        b.brokenBy("void giveOrders(", "for (int to = 0; to < nodes; to++) {",
            "for (int i = -1; i < nodes; i++) { int to = i < 0 ? from : i; if (i == from) { continue; }");
        b.brokenBy("void search()", "here = queue[next];", "here = queue[next == 0 ? 0 : entered - 1];");
        b.says(22, "(If the belief is empty already, it has no turns.)");
        b.brokenBy("void enter(", "situation % BELIEFS == 0", "situation % BELIEFS == 0 && before != START");
        b.brokenBy("int planOrder(", "turn >= plan.turns()", "turn > plan.turns()");
    }

    private void texts() {
        b.says(28, "There is a text of at most 60 characters, initially empty.");
        b.brokenBy("LONGEST_TEXT = 60", "60", "59");
        b.brokenBy("LONGEST_TEXT = 60", "60", "61");
        b.brokenBy("public PursuitDesk()", "now.startAnew(FIRST_NODES);", "now.startAnew(FIRST_NODES); textLength = 1;");
        b.says(30, "As a graph it is a sequence of edges, each followed by \";\"");
        b.brokenBy("long edgeAt(", "!isNode(a)", "a < 0 || a > 5");
        b.brokenBy("long edgeAt(", "!isNode(b)", "b < 0 || b > 5");
        b.brokenBy("long edgeAt(", "!isNode(a)", "a < 0 || a > now.nodes");
        b.brokenBy("long edgeAt(", "!isNode(b)", "b < 1 || b >= now.nodes");
        b.brokenBy("long edgeAt(", "a == b || ", "");
        b.brokenBy("long edgeAt(", "a == b", "a >= b");
        b.brokenBy("long edgeAt(", " || text[start + 1] != '-'", "");
        b.brokenBy("long edgeAt(", " || text[start + 3] != ';'", "");
        b.brokenBy("long edgeAt(", "start + EDGE_LENGTH > textLength", "start + EDGE_LENGTH > textLength + 1");
        b.brokenBy("int fault()", "start < textLength", "start + 3 < textLength");
        b.brokenBy("int fault()", "start += EDGE_LENGTH", "start += start + 4 < textLength && text[start + 4] == ' ' ? 5 : 4");
        b.brokenBy("int fault()", "start += EDGE_LENGTH", "start += start + 4 < textLength && text[start + 4] == ';' ? 5 : 4");
        b.says(30, "no edge joins the same nodes as one before it.");
        b.brokenBy("int fault()", " || (seen & edge) != 0", "");
        b.brokenBy("int fault()", "seen |= edge;", "seen = edge;");
        b.brokenBy("int fault()", "long seen = 0;", "long seen = now.paths & ~Ways.stays(now.nodes);");
        b.brokenBy("long edgeAt(", "return Ways.edge(a, b);", "return Ways.way(a, b);");
        b.says(30, "The fault of the text is the position, from 0, of the first character of the first edge that is not so");
        b.brokenBy("int fault()", "return start;", "return start + 1;");
        b.brokenBy("int fault()", "return start;", "return start / EDGE_LENGTH;");
        b.brokenBy("int fault()", "return start;", "return textLength - 1;");
        b.brokenBy("int fault()", "return start;",
            "return start + (start + 1 < textLength && text[start + 1] != '-' ? 1 : 0);");
    }

    private void changes() {
        b.says(13, "The changes are the calls of");
        b.brokenBy("int reset(", "remember();", "");
        b.brokenBy("int link(", "remember();", "");
        b.brokenBy("int lay()", "remember();", "");
        b.brokenBy("int put(", "remember();", "");
        b.brokenBy("int leave()", "remember();", "");
        b.brokenBy("int order(", "remember();", "");
        b.brokenBy("int release()", "remember();", "");
        b.brokenBy("int tell(", "remember();", "");
        b.brokenBy("int turn()", "remember();", "");
        b.brokenBy("int hide(", "remember();", "");
        b.brokenBy("int flee(", "remember();", "");
        b.brokenBy("int setNews(", "remember();", "");
        b.brokenBy("int link(", "remember();", "if (now.joins(a, b) != (is == 1)) { remember(); }");
        b.brokenBy("int order(", "remember();", "if (now.aim[searcher] != node) { remember(); }");
        b.brokenBy("int flee(", "remember();", "if (now.evader.aim != node) { remember(); }");
        b.brokenBy("int setNews(", "remember();", "if (now.period != period || now.delay != delay) { remember(); }");
        b.brokenBy("int tell(", "remember();", "if (now.beliefs.after(turn) != 1 << node) { remember(); }");
        b.brokenBy("int release()", "remember();", "if (belief() != 15) { remember(); }");
        b.brokenBy("int hide(", "remember();", "if (!now.evader.there || now.evader.node != node) { remember(); }");
        b.brokenBy("int lay()", "remember();", "if (textLength > 0) { remember(); }");
        b.brokenBy("int reset(", "remember();", "if (nodes != now.nodes) { remember(); }");
        b.brokenBy("int type(", "text[textLength]", "remember(); text[textLength]");
        b.brokenBy("int clearText()", "textLength = 0;", "textLength = 0; remember();");
        b.brokenBy("int belief()", "return", "remember(); return");
        b.brokenBy("int undo()", "recorded--;", "");
    }

    private void history() {
        b.says(13, "A history of at most 5 states is kept");
        b.brokenBy("LONGEST_HISTORY = 5", "5", "4");
        b.brokenBy("LONGEST_HISTORY = 5", "5", "6");
        b.brokenBy("void remember()", "dropOldest();", "recorded = LONGEST_HISTORY - 1;");
        b.brokenBy("void dropOldest()", "recorded = LONGEST_HISTORY - 1;", "recorded = 0;");
        b.brokenBy("void remember()", "dropOldest();", "return;");
        b.brokenBy("int undo()", "planIsKnown = false;", "planIsKnown = false; textLength = 0;");
        b.brokenBy("nodes = other.nodes;", "nodes = other.nodes;", "");
        b.brokenBy("paths = other.paths;", "paths = other.paths;", "");
        b.brokenBy("searchers = other.searchers;", "searchers = other.searchers;", "");
        b.brokenBy("System.arraycopy(other.at,", "System.arraycopy(other.at, 0, at, 0, MOST_SEARCHERS);", "");
        b.brokenBy("System.arraycopy(other.at,", "MOST_SEARCHERS", "MOST_SEARCHERS - 1");
        b.brokenBy("System.arraycopy(other.aim,", "System.arraycopy(other.aim, 0, aim, 0, MOST_SEARCHERS);", "");
        b.brokenBy("System.arraycopy(other.aim,", "MOST_SEARCHERS", "MOST_SEARCHERS - 1");
        b.brokenBy("turn = other.turn;", "turn = other.turn;", "");
        b.brokenBy("period = other.period;", "period = other.period;", "");
        b.brokenBy("delay = other.delay;", "delay = other.delay;", "");
        b.brokenBy("beliefs.copyFrom(other.beliefs);", "beliefs.copyFrom(other.beliefs);", "");
        b.brokenBy("evader.copyFrom(other.evader);", "evader.copyFrom(other.evader);", "");
    }

    private void historyOfBeliefsAndEvader() {
        b.brokenBy("System.arraycopy(other.sets,", "System.arraycopy(other.sets, 0, sets, 0, MOST_KEPT);", "");
        b.brokenBy("System.arraycopy(other.sets,", "MOST_KEPT", "MOST_KEPT - 1");
        b.brokenBy("System.arraycopy(other.waysInto,", "System.arraycopy(other.waysInto, 0, waysInto, 0, MOST_KEPT);", "");
        b.brokenBy("last = other.last;", "last = other.last;", "");
        b.brokenBy("kept = other.kept;", "kept = other.kept;", "");
        b.brokenBy("there = other.there;", "there = other.there;", "");
        b.brokenBy("node = other.node;", "node = other.node;", "");
        b.brokenBy("aim = other.aim;", "aim = other.aim;", "");
        b.brokenBy("caught = other.caught;", "caught = other.caught;", "");
        b.brokenBy("caughtAt = other.caughtAt;", "caughtAt = other.caughtAt;", "");
        b.brokenBy("hiddenAt = other.hiddenAt;", "hiddenAt = other.hiddenAt;", "");
        b.brokenBy("System.arraycopy(other.trail,", "System.arraycopy(other.trail, 0, trail, 0, Beliefs.MOST_KEPT);", "");
    }

    private void errors() {
        b.says(5, "If several errors apply to a call");
        b.brokenBy("int put(", "!isNode(node)", "now.searchers < MOST_SEARCHERS && !isNode(node)");
        b.brokenBy("int order(", "!isSearcher(searcher) || !isNode(node)", "!isNode(node)) { return INVALID_ARGUMENT; } "
            + "if (!isSearcher(searcher)) { return node > 3 ? NOT_POSSIBLE : INVALID_ARGUMENT; } if (false");
        b.brokenBy("int tell(", "turn < 0 || turn > now.turn || !isNode(node)",
            "turn < 0 || turn > now.turn || now.beliefs.keeps(turn) && !isNode(node)");
        b.brokenBy("int flee(", "!isNode(node)", "now.evader.there && !isNode(node)");
        b.brokenBy("int flee(", "!isNode(node)", "!now.evader.caught && !isNode(node)");
        b.brokenBy("int evader(", "what < 0 || what > 4", "now.evader.there && (what < 0 || what > 4)");
        b.brokenBy("int planOrder(", "turn < 0 || !isSearcher(searcher)",
            "planTurns() != NOT_FOUND && (turn < 0 || !isSearcher(searcher))");
        b.brokenBy("int planOrder(", "turn < 0 || !isSearcher(searcher)",
            "turn < 0 || turn < planTurns() && !isSearcher(searcher)");
        b.brokenBy("int type(", "character < FIRST_CHARACTER", "textLength < 60 && character < FIRST_CHARACTER");
        b.brokenBy("int type(", "character > LAST_CHARACTER", "textLength < 60 && character > LAST_CHARACTER");
        b.brokenBy("int bestTurns(", "searchers < 1 || searchers > MOST_SEARCHERS",
            "turnsFromBestStart(3) != NOT_FOUND && (searchers < 1 || searchers > MOST_SEARCHERS)");
        b.says(5, "A call that returns an error changes nothing.");
        String[] calls = {"int reset(", "int link(", "int put(", "int order(", "int beliefAfter(", "int tell(",
            "int neighbours(",
            "int searcher(", "int hide(", "int flee(", "int setNews(", "int evader(", "int planOrder(", "int bestTurns(",
                "int type("};
        for (String call : calls) {
            b.brokenBy(call, "return INVALID_ARGUMENT;", "remember(); return INVALID_ARGUMENT;");
        }
        for (String call : new String[] {"int lay()", "int leave()", "int order(", "int tell(", "int hide(", "int flee("}) {
            b.brokenBy(call, "return NOT_POSSIBLE;", "remember(); return NOT_POSSIBLE;");
        }
        b.brokenBy("int put(", "return LIMIT_REACHED;", "now.beliefs.leaveOut(node); return LIMIT_REACHED;");
        b.brokenBy("int leave()", "return NOT_POSSIBLE;", "now.evader.there = false; return NOT_POSSIBLE;");
        b.brokenBy("int tell(", "return NOT_FOUND;", "now.beliefs.leaveOut(node); return NOT_FOUND;");
        b.brokenBy("int type(", "return LIMIT_REACHED;", "textLength = 0; return LIMIT_REACHED;");
        b.brokenBy("int lay()", "return NOT_POSSIBLE;", "textLength = 0; return NOT_POSSIBLE;");
        b.brokenBy("int beliefAfter(", "return now.beliefs.keeps(turn)", "now.period = 0; return now.beliefs.keeps(turn)");
        b.says(7, "If there is no node or searcher with a certain number, this is INVALID_ARGUMENT.");
        b.brokenBy("boolean isSearcher(", "now.searchers", "MOST_SEARCHERS");
        b.brokenBy("boolean isNode(", "now.nodes", "MOST_NODES");
        b.says(9, "Sets of nodes are bit masks, in which bit k stands for node k");
        b.brokenBy("int belief()", "now.beliefs.after(now.turn)",
            "(Integer.reverse(now.beliefs.after(now.turn)) >>> 32 - now.nodes)");
        b.brokenBy("int belief()", "now.beliefs.after(now.turn)", "(now.beliefs.after(now.turn) << 1)");
    }

    private void constants() {
        b.says(7, "The constants: `INVALID_ARGUMENT = -1`");
        b.brokenBy("INVALID_ARGUMENT = -1", "-1", "-11");
        b.says(6, "`NOT_POSSIBLE = -2`");
        b.brokenBy("NOT_POSSIBLE = -2", "-2", "-12");
        b.says(5, "`LIMIT_REACHED = -3`");
        b.brokenBy("LIMIT_REACHED = -3", "-3", "-13");
        b.says(22, "`NOT_FOUND = -4`");
        b.brokenBy("NOT_FOUND = -4", "-4", "-14");
    }

    private void nothingChanges() {
        b.says(21, "nothing changes");
        b.brokenBy("int ahead()", "return", "remember(); return");
        b.brokenBy("int ahead()", "return", "textLength = 0; return");
        b.brokenBy("int planTurns()", "knowPlan();", "remember(); knowPlan();");
        b.brokenBy("int planOrder(", "knowPlan();", "remember(); knowPlan();");
        b.brokenBy("int planOrder(", "knowPlan();", "knowPlan(); System.arraycopy(now.at, 0, now.aim, 0, 3);");
        b.brokenBy("int planMoves()", "return", "now.evader.aim = now.evader.node; return");
        b.brokenBy("int settles()", "belief = next;", "belief = next; now.beliefs.sets[Beliefs.slot(now.turn)] = next;");
        b.brokenBy("int settles()", "long ways", "remember(); long ways");
        b.brokenBy("int leastSearchers()", "for (", "remember(); for (");
        b.brokenBy("int turnsFromBestStart(", "bestStart.forget();", "bestStart.forget(); now.searchers = searchers;");
        b.brokenBy("int bestTurns(", "return turnsFromBestStart(searchers);",
            "remember(); return turnsFromBestStart(searchers);");
    }
}
