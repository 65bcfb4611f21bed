/** One part for each promise of the document: ordinary inputs, the edges it names, and wrong inputs. */
public final class PromisesTest {
    private static final int INVALID = -1;
    private static final int IMPOSSIBLE = -2;
    private static final int LIMIT = -3;
    private static final int MISSING = -4;
    private static final int LEAST = Integer.MIN_VALUE;
    private static final int MOST = Integer.MAX_VALUE;
    private static final Check check = new Check();

    public static void main(String[] args) {
        constants();
        newObject();
        reset();
        link();
        linkDropsOrders();
        lay();
        put();
        leave();
        order();
        release();
        belief();
        meetingsOnEdges();
        beliefAfter();
        tell();
        tellRemembersMovesAndEdges();
        turn();
        undo();
        count();
        neighbours();
        searcher();
        hide();
        flee();
        setNews();
        newsByItself();
        newsOfLateHiding();
        evader();
        evaderIsCaught();
        ahead();
        planTurns();
        planOrder();
        planMoves();
        settles();
        leastSearchers();
        bestTurns();
        type();
        clearText();
        fault();
        check.end();
    }

    private static void is(String call, int got, int due) {
        check.is(call, got, due);
    }

    private static PursuitDesk graph(int nodes, String edges) {
        PursuitDesk desk = new PursuitDesk();
        desk.reset(nodes);
        for (int i = 0; i + 1 < edges.length(); i += 3) {
            desk.link(edges.charAt(i) - '0', edges.charAt(i + 1) - '0', 1);
        }
        return desk;
    }

    private static PursuitDesk path4() {
        return graph(4, "01 12 23");
    }

    private static void write(PursuitDesk desk, String text) {
        desk.clearText();
        for (int i = 0; i < text.length(); i++) {
            desk.type(text.charAt(i));
        }
    }

    private static void constants() {
        check.part("the constants");
        is("INVALID_ARGUMENT", PursuitDesk.INVALID_ARGUMENT, INVALID);
        is("NOT_POSSIBLE", PursuitDesk.NOT_POSSIBLE, IMPOSSIBLE);
        is("LIMIT_REACHED", PursuitDesk.LIMIT_REACHED, LIMIT);
        is("NOT_FOUND", PursuitDesk.NOT_FOUND, MISSING);
    }

    private static void newObject() {
        check.part("promise 1");
        PursuitDesk desk = new PursuitDesk();
        int[] due = {4, 0, 0, 0, 1, 0, 0, 0};
        for (int what = 0; what < due.length; what++) {
            is("count(" + what + ")", desk.count(what), due[what]);
        }
        for (int node = 0; node < 4; node++) {
            is("neighbours", desk.neighbours(node), 0);
        }
        is("belief", desk.belief(), 15);
        is("evader", desk.evader(0), MISSING);
        is("clearText", desk.clearText(), 0);
        is("undo", desk.undo(), IMPOSSIBLE);
    }

    private static void reset() {
        check.part("promise 2");
        PursuitDesk desk = path4();
        desk.setNews(3, 2);
        desk.put(0);
        desk.hide(2);
        desk.type('0');
        desk.turn();
        desk.turn();
        int[] wrong = {LEAST, -1, 0, 1, 7, MOST};
        for (int nodes : wrong) {
            is("reset(" + nodes + ")", desk.reset(nodes), INVALID);
        }
        is("t after errors", desk.count(3), 2);
        is("reset(6)", desk.reset(6), 4);
        int[] due = {6, 0, 0, 0, 1, 3, 2, 5};
        for (int what = 0; what < due.length; what++) {
            is("count(" + what + ")", desk.count(what), due[what]);
        }
        is("belief", desk.belief(), 63);
        is("evader", desk.evader(0), MISSING);
        is("searcher", desk.searcher(0, 0), INVALID);
        is("the text stays", desk.clearText(), 1);
        is("reset(2)", desk.reset(2), 6);
        is("belief", desk.belief(), 3);
        is("neighbours(2)", desk.neighbours(2), INVALID);
        is("undo", desk.undo(), 4);
        is("undo", desk.undo(), 3);
        is("N again", desk.count(0), 4);
        is("edges again", desk.count(1), 3);
        is("t again", desk.count(3), 2);
        is("evader again", desk.evader(0), 2);
    }

    private static void link() {
        check.part("promise 3");
        PursuitDesk desk = new PursuitDesk();
        int[][] wrong = {{0, 0, 1}, {-1, 0, 1}, {0, -1, 0}, {4, 0, 1}, {0, 4, 1}, {0, 1, -1}, {0, 1, 2},
            {LEAST, MOST, 1}, {0, 1, MOST}, {3, 3, 0}};
        for (int[] w : wrong) {
            is("link" + java.util.Arrays.toString(w), desk.link(w[0], w[1], w[2]), INVALID);
        }
        is("no change", desk.count(7), 0);
        is("remove none", desk.link(0, 1, 0), 0);
        is("also a change", desk.count(7), 1);
        is("add", desk.link(3, 1, 1), 0);
        is("add again", desk.link(1, 3, 1), 1);
        is("edges", desk.count(1), 1);
        is("neighbours(1)", desk.neighbours(1), 8);
        is("neighbours(3)", desk.neighbours(3), 2);
        is("remove", desk.link(1, 3, 0), 1);
        is("edges", desk.count(1), 0);
        is("the belief stays", desk.belief(), 15);
    }

    private static void linkDropsOrders() {
        check.part("promise 3, orders");
        PursuitDesk desk = graph(4, "01 12 23");
        desk.put(1);
        desk.put(2);
        desk.put(0);
        desk.order(0, 2);
        desk.order(1, 1);
        desk.order(2, 1);
        desk.hide(3);
        desk.flee(2);
        is("link(2, 1, 0)", desk.link(2, 1, 0), 1);
        is("order of 0", desk.searcher(0, 1), 1);
        is("order of 1", desk.searcher(1, 1), 2);
        is("order of 2 stays", desk.searcher(2, 1), 1);
        is("order of the evader stays", desk.evader(1), 2);
        desk.link(3, 2, 0);
        is("order of the evader", desk.evader(1), 3);
        desk.link(3, 2, 1);
        is("an edge that comes back brings no order back", desk.evader(1), 3);
    }

    private static void lay() {
        check.part("promise 4");
        PursuitDesk desk = path4();
        desk.put(0);
        desk.order(0, 1);
        desk.hide(3);
        desk.flee(2);
        desk.turn();
        desk.order(0, 2);
        desk.flee(3);
        is("belief before", desk.belief(), 12);
        write(desk, "3-0;0-2");
        is("lay with a fault", desk.lay(), IMPOSSIBLE);
        is("neighbours stay", desk.neighbours(1), 5);
        is("order stays", desk.searcher(0, 1), 2);
        desk.type(';');
        is("lay", desk.lay(), 2);
        is("edges", desk.count(1), 2);
        is("neighbours(0)", desk.neighbours(0), 12);
        is("neighbours(1)", desk.neighbours(1), 0);
        is("searcher stays", desk.searcher(0, 0), 1);
        is("its order", desk.searcher(0, 1), 1);
        is("evader stays", desk.evader(0), 2);
        is("its order", desk.evader(1), 2);
        is("belief", desk.belief(), 13);
        is("only one is kept", desk.count(4), 1);
        is("beliefAfter(0)", desk.beliefAfter(0), MISSING);
        is("t stays", desk.count(3), 1);
        is("the text stays", desk.clearText(), 8);
        is("lay of nothing", desk.lay(), 0);
        is("edges", desk.count(1), 0);
        desk.undo();
        is("edges again", desk.count(1), 2);
    }

    private static void put() {
        check.part("promise 5");
        PursuitDesk desk = path4();
        desk.hide(2);
        desk.flee(1);
        int[] wrong = {LEAST, -1, 4, MOST};
        for (int node : wrong) {
            is("put(" + node + ")", desk.put(node), INVALID);
        }
        desk.turn();
        is("put(3)", desk.put(3), 0);
        is("belief", desk.belief(), 7);
        is("the belief before stays", desk.beliefAfter(0), 15);
        is("its order", desk.searcher(0, 1), 3);
        is("evader is free", desk.evader(2), 0);
        desk.flee(2);
        is("put(1)", desk.put(1), 1);
        is("evader is caught", desk.evader(2), 1);
        is("when", desk.evader(3), 1);
        is("its order", desk.evader(1), 1);
        is("belief", desk.belief(), 5);
        is("put(3) again", desk.put(3), 2);
        is("belief", desk.belief(), 5);
        is("a fourth", desk.put(0), LIMIT);
        is("a fourth nowhere", desk.put(4), INVALID);
        is("belief", desk.belief(), 5);
        desk.turn();
        desk.leave();
        desk.put(1);
        is("caught only once", desk.evader(3), 1);
    }

    private static void leave() {
        check.part("promise 6");
        PursuitDesk desk = new PursuitDesk();
        is("leave", desk.leave(), IMPOSSIBLE);
        is("no change", desk.count(7), 0);
        desk.put(1);
        desk.put(3);
        is("leave", desk.leave(), 1);
        is("who is left", desk.searcher(0, 0), 1);
        is("who is not", desk.searcher(1, 0), INVALID);
        is("the belief stays", desk.belief(), 5);
        is("leave", desk.leave(), 0);
        is("leave", desk.leave(), IMPOSSIBLE);
        is("put", desk.put(0), 0);
    }

    private static void order() {
        check.part("promise 7");
        PursuitDesk desk = path4();
        is("no searcher", desk.order(0, 0), INVALID);
        desk.put(1);
        int[][] wrong = {{-1, 0}, {1, 0}, {0, -1}, {0, 4}, {LEAST, 0}, {0, MOST}, {1, 3}};
        for (int[] w : wrong) {
            is("order" + java.util.Arrays.toString(w), desk.order(w[0], w[1]), INVALID);
        }
        is("too far", desk.order(0, 3), IMPOSSIBLE);
        is("order(0, 2)", desk.order(0, 2), 1);
        is("order(0, 0)", desk.order(0, 0), 2);
        is("order(0, 1)", desk.order(0, 1), 0);
        is("order(0, 0)", desk.order(0, 0), 1);
        is("not gone yet", desk.searcher(0, 0), 1);
        desk.turn();
        is("gone", desk.searcher(0, 0), 0);
        is("order is its node", desk.searcher(0, 1), 0);
    }

    private static void release() {
        check.part("promise 8");
        PursuitDesk desk = path4();
        desk.put(0);
        desk.order(0, 1);
        desk.hide(2);
        desk.turn();
        desk.order(0, 2);
        is("release", desk.release(), 13);
        is("belief", desk.belief(), 13);
        is("kept", desk.count(4), 1);
        is("t stays", desk.count(3), 1);
        is("the order stays", desk.searcher(0, 1), 2);
        is("a hidden evader stays", desk.evader(0), 2);
        is("beliefAfter(0)", desk.beliefAfter(0), MISSING);
        is("beliefAfter(1)", desk.beliefAfter(1), 13);
        desk.undo();
        is("undo", desk.belief(), 12);
        is("undo", desk.beliefAfter(0), 14);
    }

    private static void belief() {
        check.part("promise 9");
        PursuitDesk desk = path4();
        desk.put(0);
        is("belief", desk.belief(), 14);
        desk.order(0, 1);
        is("an order changes nothing yet", desk.belief(), 14);
        desk.turn();
        is("belief", desk.belief(), 12);
        desk.link(0, 3, 1);
        is("an edge has an effect from the next turn on", desk.belief(), 12);
        desk.turn();
        is("belief", desk.belief(), 13);
        desk.leave();
        is("belief", desk.belief(), 13);
        desk.turn();
        is("belief", desk.belief(), 15);
    }

    private static void meetingsOnEdges() {
        check.part("meetings");
        PursuitDesk desk = graph(3, "01 12");
        desk.put(0);
        desk.order(0, 1);
        is("nobody passes a searcher on its edge", desk.ahead(), 4);
        desk.link(0, 2, 1);
        is("another edge leads to where it came from", desk.ahead(), 5);
        desk.link(0, 1, 0);
        is("one who stays lets nobody onto its node", desk.ahead(), 6);
        PursuitDesk two = graph(2, "01");
        two.put(0);
        two.put(0);
        two.order(0, 1);
        is("one goes, one stays", two.ahead(), 0);
    }

    private static void beliefAfter() {
        check.part("promise 10");
        PursuitDesk desk = path4();
        desk.put(0);
        int[] wrong = {LEAST, -1, 1, MOST};
        for (int turn : wrong) {
            is("beliefAfter(" + turn + ")", desk.beliefAfter(turn), INVALID);
        }
        is("beliefAfter(0)", desk.beliefAfter(0), 14);
        desk.order(0, 1);
        desk.turn();
        for (int turn = 2; turn <= 7; turn++) {
            desk.turn();
        }
        is("the eighth", desk.beliefAfter(0), 14);
        is("the seventh", desk.beliefAfter(1), 12);
        is("the latest", desk.beliefAfter(7), 12);
        desk.turn();
        is("the ninth", desk.beliefAfter(0), MISSING);
        is("the eighth", desk.beliefAfter(1), 12);
        is("not yet", desk.beliefAfter(9), INVALID);
    }

    private static void tell() {
        check.part("promise 11");
        PursuitDesk desk = graph(6, "01 12 23 34 45");
        desk.turn();
        desk.turn();
        int[][] wrong = {{-1, 0}, {3, 0}, {0, -1}, {0, 6}, {LEAST, 1}, {MOST, 1}, {3, 6}};
        for (int[] w : wrong) {
            is("tell" + java.util.Arrays.toString(w), desk.tell(w[0], w[1]), INVALID);
        }
        is("tell(0, 0)", desk.tell(0, 0), 7);
        is("beliefAfter(0)", desk.beliefAfter(0), 1);
        is("beliefAfter(1)", desk.beliefAfter(1), 3);
        is("belief", desk.belief(), 7);
        is("not contained", desk.tell(1, 2), IMPOSSIBLE);
        is("not contained, now", desk.tell(2, 5), IMPOSSIBLE);
        is("tell(2, 2)", desk.tell(2, 2), 4);
        is("earlier ones stay", desk.beliefAfter(1), 3);
        is("only what was there before remains", desk.tell(1, 1), 4);
        desk.release();
        is("not kept", desk.tell(1, 1), MISSING);
        is("not kept, out of range", desk.tell(1, 6), INVALID);
        is("kept", desk.tell(2, 5), 32);
        is("a change", desk.undo(), 4);
        is("undone", desk.belief(), 63);
        PursuitDesk put = graph(3, "01 12");
        put.turn();
        put.put(2);
        is("news keeps off a node on which a searcher was put", put.tell(0, 1), 3);
    }

    private static void tellRemembersMovesAndEdges() {
        check.part("promise 11, then");
        PursuitDesk desk = graph(4, "01 12 23");
        desk.put(1);
        desk.order(0, 0);
        desk.turn();
        desk.link(1, 2, 0);
        desk.turn();
        desk.link(1, 2, 1);
        desk.link(0, 3, 1);
        desk.leave();
        is("all but the searcher's node", desk.belief(), 14);
        is("the edges and moves of then", desk.tell(0, 2), 14);
        is("after the first turn", desk.beliefAfter(1), 14);
        desk.undo();
        is("an edge that was away then", desk.tell(1, 2), 12);
        PursuitDesk swap = graph(3, "01 12");
        swap.put(0);
        swap.order(0, 1);
        swap.turn();
        swap.leave();
        swap.link(0, 1, 0);
        is("the searcher that has left caught it then", swap.tell(0, 1), 4);
        swap.undo();
        is("so it did from here", swap.tell(0, 2), 4);
    }

    private static void turn() {
        check.part("promise 12");
        PursuitDesk desk = path4();
        desk.put(0);
        desk.put(3);
        desk.order(0, 1);
        desk.order(1, 2);
        is("turn", desk.turn(), 0);
        is("t", desk.count(3), 1);
        is("searcher 0", desk.searcher(0, 0), 1);
        is("searcher 1", desk.searcher(1, 0), 2);
        is("order 1", desk.searcher(1, 1), 2);
        is("turn", desk.turn(), 0);
        PursuitDesk long10000 = new PursuitDesk();
        for (int i = 1; i <= 10000; i++) {
            long10000.turn();
        }
        is("t at its limit", long10000.count(3), 10000);
        is("turn at the limit", long10000.turn(), LIMIT);
        is("t at its limit", long10000.count(3), 10000);
        is("nobody can leave it", long10000.ahead(), 15);
    }

    private static void undo() {
        check.part("promise 13");
        PursuitDesk desk = path4();
        while (desk.undo() > 0) {
            check.part("promise 13");
        }
        is("empty", desk.undo(), IMPOSSIBLE);
        PursuitDesk six = new PursuitDesk();
        for (int node = 0; node < 6; node++) {
            six.setNews(node, node);
        }
        is("five are kept", six.count(7), 5);
        for (int left = 4; left >= 0; left--) {
            is("undo", six.undo(), left);
            is("as before the change", six.count(5), left);
        }
        is("undo", six.undo(), IMPOSSIBLE);
        is("the oldest was dropped", six.count(5), 0);
        undoRestoresEverything();
        undoRestoresTheEvader();
        undoRestoresTheKeptBeliefs();
        onlyChangesAreRecorded();
    }

    private static void undoRestoresEverything() {
        PursuitDesk desk = path4();
        desk.put(1);
        desk.hide(3);
        desk.order(0, 2);
        desk.flee(2);
        desk.setNews(1, 1);
        is("the evader is caught", desk.turn(), 11);
        desk.undo();
        is("t", desk.count(3), 0);
        is("searcher", desk.searcher(0, 0), 1);
        is("order", desk.searcher(0, 1), 2);
        is("evader", desk.evader(0), 3);
        is("its order", desk.evader(1), 2);
        is("free", desk.evader(2), 0);
        is("kept", desk.count(4), 1);
        is("belief", desk.belief(), 13);
        is("news", desk.count(6), 1);
        desk.type('x');
        desk.undo();
        is("P", desk.count(5), 0);
        is("the text is not restored", desk.clearText(), 1);
    }

    private static void undoRestoresTheEvader() {
        PursuitDesk desk = path4();
        desk.hide(0);
        desk.undo();
        is("there was none", desk.evader(0), MISSING);
        desk.hide(0);
        desk.flee(1);
        desk.turn();
        desk.hide(3);
        is("undo of hide", desk.undo(), 4);
        is("the other one", desk.evader(0), 1);
        is("hidden", desk.evader(4), 0);
        desk.setNews(1, 1);
        is("news of where the other one was", desk.turn(), 7);
        desk.put(1);
        desk.hide(3);
        desk.undo();
        is("caught", desk.evader(2), 1);
        is("when", desk.evader(3), 2);
        desk.put(2);
        desk.undo();
        is("searchers", desk.count(2), 1);
        desk.order(0, 0);
        desk.order(0, 2);
        desk.undo();
        is("order", desk.searcher(0, 1), 0);
        desk.setNews(1, 5);
        desk.undo();
        is("delay", desk.count(6), 1);
    }

    private static void undoRestoresTheKeptBeliefs() {
        PursuitDesk once = path4();
        once.turn();
        once.undo();
        once.put(2);
        is("put after an undone turn", once.belief(), 11);
        PursuitDesk desk = path4();
        for (int i = 0; i < 7; i++) {
            desk.turn();
        }
        desk.reset(4);
        desk.turn();
        desk.turn();
        desk.turn();
        desk.undo();
        desk.undo();
        desk.undo();
        desk.undo();
        is("the edges of then", desk.tell(0, 0), 15);
        is("after turn 1", desk.beliefAfter(1), 3);
        is("after turn 2", desk.beliefAfter(2), 7);
        is("after turn 3", desk.beliefAfter(3), 15);
    }

    private static void onlyChangesAreRecorded() {
        PursuitDesk desk = new PursuitDesk();
        desk.belief();
        desk.type('0');
        desk.clearText();
        desk.planTurns();
        desk.ahead();
        desk.link(0, 0, 1);
        desk.leave();
        desk.put(9);
        desk.undo();
        is("nothing was a change", desk.count(7), 0);
        desk.lay();
        is("lay", desk.count(7), 1);
        desk.put(0);
        is("put", desk.count(7), 2);
        desk.order(0, 0);
        is("order", desk.count(7), 3);
        desk.hide(1);
        is("hide", desk.count(7), 4);
        desk.flee(1);
        is("flee", desk.count(7), 5);
        for (int i = 0; i < 5; i++) {
            desk.undo();
        }
        desk.release();
        is("release", desk.count(7), 1);
        desk.tell(0, 1);
        is("tell", desk.count(7), 2);
        desk.turn();
        is("turn", desk.count(7), 3);
        desk.setNews(0, 0);
        is("setNews", desk.count(7), 4);
        desk.reset(4);
        is("reset", desk.count(7), 5);
    }

    private static void count() {
        check.part("promise 14");
        PursuitDesk desk = graph(5, "01 12");
        desk.put(0);
        desk.turn();
        desk.turn();
        desk.turn();
        desk.setNews(9, 7);
        int[] due = {5, 2, 1, 3, 4, 9, 7, 5};
        for (int what = 0; what < due.length; what++) {
            is("count(" + what + ")", desk.count(what), due[what]);
        }
        int[] wrong = {LEAST, -1, 8, MOST};
        for (int what : wrong) {
            is("count(" + what + ")", desk.count(what), INVALID);
        }
        for (int i = 0; i < 9; i++) {
            desk.turn();
        }
        is("kept", desk.count(4), 8);
    }

    private static void neighbours() {
        check.part("promise 15");
        PursuitDesk desk = graph(6, "05 15 25 35 45 01");
        is("neighbours(5)", desk.neighbours(5), 31);
        is("neighbours(0)", desk.neighbours(0), 34);
        is("neighbours(4)", desk.neighbours(4), 32);
        int[] wrong = {LEAST, -1, 6, MOST};
        for (int node : wrong) {
            is("neighbours(" + node + ")", desk.neighbours(node), INVALID);
        }
        is("neighbours(4) of 4 nodes", new PursuitDesk().neighbours(4), INVALID);
    }

    private static void searcher() {
        check.part("promise 16");
        PursuitDesk desk = path4();
        is("none", desk.searcher(0, 0), INVALID);
        desk.put(2);
        desk.put(1);
        desk.order(1, 0);
        is("node of 0", desk.searcher(0, 0), 2);
        is("order of 0", desk.searcher(0, 1), 2);
        is("node of 1", desk.searcher(1, 0), 1);
        is("order of 1", desk.searcher(1, 1), 0);
        int[][] wrong = {{-1, 0}, {2, 0}, {0, -1}, {0, 2}, {MOST, 1}, {0, LEAST}};
        for (int[] w : wrong) {
            is("searcher" + java.util.Arrays.toString(w), desk.searcher(w[0], w[1]), INVALID);
        }
    }

    private static void hide() {
        check.part("promise 17");
        PursuitDesk desk = path4();
        desk.put(1);
        int[] wrong = {LEAST, -1, 4, MOST};
        for (int node : wrong) {
            is("hide(" + node + ")", desk.hide(node), INVALID);
        }
        is("at a searcher", desk.hide(1), IMPOSSIBLE);
        is("no evader yet", desk.evader(0), MISSING);
        is("hide(2)", desk.hide(2), 1);
        desk.order(0, 2);
        desk.turn();
        is("caught", desk.evader(2), 1);
        is("hide(0)", desk.hide(0), 1);
        is("in place of the other", desk.evader(0), 0);
        is("free", desk.evader(2), 0);
        is("not caught", desk.evader(3), 0);
        is("hidden", desk.evader(4), 1);
        desk.tell(1, 3);
        is("out of the belief", desk.hide(0), 0);
        is("the belief stays", desk.belief(), 8);
    }

    private static void flee() {
        check.part("promise 18");
        PursuitDesk desk = path4();
        is("there is none", desk.flee(0), IMPOSSIBLE);
        is("nor such a node", desk.flee(4), INVALID);
        desk.hide(1);
        int[] wrong = {LEAST, -1, 4, MOST};
        for (int node : wrong) {
            is("flee(" + node + ")", desk.flee(node), INVALID);
        }
        is("too far", desk.flee(3), IMPOSSIBLE);
        is("flee(2)", desk.flee(2), 1);
        is("flee(0)", desk.flee(0), 2);
        is("flee(1)", desk.flee(1), 0);
        desk.flee(2);
        desk.turn();
        is("it went", desk.evader(0), 2);
        is("its order", desk.evader(1), 2);
        desk.put(2);
        is("caught", desk.flee(2), IMPOSSIBLE);
        is("caught, no such node", desk.flee(-1), INVALID);
    }

    private static void setNews() {
        check.part("promise 19");
        PursuitDesk desk = new PursuitDesk();
        is("setNews(9, 7)", desk.setNews(9, 7), 0);
        is("setNews(2, 0)", desk.setNews(2, 0), 97);
        is("setNews(0, 5)", desk.setNews(0, 5), 20);
        int[][] wrong = {{-1, 0}, {10, 0}, {0, -1}, {0, 8}, {LEAST, 0}, {0, MOST}};
        for (int[] w : wrong) {
            is("setNews" + java.util.Arrays.toString(w), desk.setNews(w[0], w[1]), INVALID);
        }
        is("setNews(0, 0)", desk.setNews(0, 0), 5);
    }

    private static void newsByItself() {
        check.part("news");
        PursuitDesk desk = graph(6, "01 12 23 34 45");
        desk.setNews(2, 1);
        desk.hide(0);
        is("turn 1 is no multiple", desk.turn(), 63);
        is("turn 2 tells of turn 1", desk.turn(), 3);
        is("what was known after it", desk.beliefAfter(1), 1);
        is("before it all stays", desk.beliefAfter(0), 63);
        is("turn 3 tells nothing", desk.turn(), 7);
        desk.flee(1);
        is("turn 4 tells of turn 3", desk.turn(), 3);
        desk.setNews(1, 0);
        is("at once", desk.turn(), 2);
        desk.setNews(0, 0);
        is("no period, no news", desk.turn(), 7);
        desk.setNews(1, 7);
        is("turn 7 tells of turn 0", desk.turn(), 15);
        is("turn 0", desk.beliefAfter(0), 1);
        desk.release();
        desk.setNews(1, 2);
        is("turn 6 is not kept any more", desk.turn(), 63);
        is("turn 7 is", desk.turn(), 15);
        is("turn 7", desk.beliefAfter(7), 2);
    }

    private static void newsOfLateHiding() {
        check.part("news of one hidden late");
        PursuitDesk desk = graph(6, "01 12 23 34 45");
        desk.setNews(1, 2);
        desk.turn();
        desk.hide(5);
        is("t - D is before it was hidden", desk.turn(), 63);
        is("t - D is when it was hidden", desk.turn(), 56);
        desk.hide(3);
        is("t - D is before the new one was hidden", desk.turn(), 60);
        is("of the new one", desk.turn(), 62);
        desk.put(3);
        is("caught, it gives no news", desk.turn(), 55);
        PursuitDesk outside = graph(4, "01 12 23");
        outside.tell(0, 0);
        outside.hide(3);
        outside.setNews(1, 0);
        is("a node out of the belief makes nothing different", outside.turn(), 3);
        PursuitDesk soon = graph(4, "01 12 23");
        soon.hide(0);
        soon.setNews(1, 3);
        is("t is less than D", soon.turn(), 15);
        is("t is less than D", soon.turn(), 15);
        is("t is D", soon.turn(), 15);
        is("of turn 0", soon.beliefAfter(1), 3);
        PursuitDesk now = graph(2, "01");
        now.put(0);
        now.hide(1);
        now.setNews(1, 1);
        now.order(0, 1);
        is("caught in this turn", now.turn(), 0);
        is("the belief before it stays", now.beliefAfter(0), 2);
        PursuitDesk last = graph(4, "01 12 23");
        last.hide(2);
        last.put(1);
        last.setNews(1, 1);
        last.order(0, 2);
        last.turn();
        is("no news of one caught in this turn", last.beliefAfter(0), 13);
    }

    private static void evader() {
        check.part("promise 20");
        PursuitDesk desk = path4();
        is("none", desk.evader(4), MISSING);
        is("none, and no such number", desk.evader(5), INVALID);
        desk.turn();
        desk.turn();
        desk.hide(2);
        desk.flee(3);
        int[] due = {2, 3, 0, 0, 2};
        for (int what = 0; what < due.length; what++) {
            is("evader(" + what + ")", desk.evader(what), due[what]);
        }
        int[] wrong = {LEAST, -1, 5, MOST};
        for (int what : wrong) {
            is("evader(" + what + ")", desk.evader(what), INVALID);
        }
        desk.reset(4);
        is("none after reset", desk.evader(2), MISSING);
    }

    private static void evaderIsCaught() {
        check.part("promise 20, caught");
        PursuitDesk node = path4();
        node.put(1);
        node.hide(3);
        node.flee(2);
        node.order(0, 2);
        node.turn();
        is("it went to this node", node.evader(0), 2);
        is("caught on a node", node.evader(2), 1);
        PursuitDesk edge = path4();
        edge.turn();
        edge.put(1);
        edge.hide(2);
        edge.flee(1);
        edge.order(0, 2);
        edge.turn();
        int[] due = {1, 1, 1, 2, 1};
        for (int what = 0; what < due.length; what++) {
            is("caught on an edge: evader(" + what + ")", edge.evader(what), due[what]);
        }
        edge.turn();
        is("it stays so", edge.evader(3), 2);
        edge.undo();
        edge.undo();
        is("undo", edge.evader(2), 0);
        PursuitDesk behind = graph(3, "01 12 02");
        behind.put(0);
        behind.hide(2);
        behind.flee(0);
        behind.order(0, 1);
        behind.turn();
        is("behind the searcher it is free", behind.evader(2), 0);
        is("there", behind.evader(0), 0);
        PursuitDesk after = path4();
        after.put(0);
        after.hide(1);
        after.flee(2);
        after.order(0, 1);
        after.turn();
        is("it went on in the same direction", after.evader(2), 0);
    }

    private static void ahead() {
        check.part("promise 21");
        PursuitDesk desk = path4();
        desk.put(0);
        desk.put(3);
        is("all stay", desk.ahead(), 6);
        desk.order(0, 1);
        is("one goes", desk.ahead(), 4);
        desk.order(1, 2);
        is("both go", desk.ahead(), 0);
        is("nothing changes", desk.belief(), 6);
        is("nothing changes", desk.count(3), 0);
        PursuitDesk news = path4();
        news.hide(0);
        news.setNews(1, 0);
        is("without any news", news.ahead(), 15);
        is("with it", news.turn(), 1);
    }

    private static void planTurns() {
        check.part("promise 22");
        PursuitDesk none = path4();
        is("no searchers", none.planTurns(), MISSING);
        PursuitDesk desk = path4();
        desk.put(0);
        is("from the end", desk.planTurns(), 3);
        desk.tell(0, 1);
        is("with news", desk.planTurns(), 3);
        desk.undo();
        is("undone", desk.planTurns(), 3);
        desk.put(3);
        is("from both ends", desk.planTurns(), 1);
        desk.order(0, 1);
        desk.order(1, 2);
        desk.turn();
        is("empty", desk.planTurns(), 0);
        desk.leave();
        desk.leave();
        is("empty, no searchers", desk.planTurns(), 0);
        PursuitDesk ring = graph(4, "01 12 23 30");
        ring.put(0);
        is("one on a ring", ring.planTurns(), MISSING);
        ring.put(0);
        is("two on a ring", ring.planTurns(), 2);
        PursuitDesk middle = path4();
        middle.put(1);
        is("from within", middle.planTurns(), 4);
        PursuitDesk at10000 = graph(2, "01");
        for (int i = 0; i < 10000; i++) {
            at10000.turn();
        }
        at10000.put(0);
        is("plans do not know the limit of t", at10000.planTurns(), 1);
    }

    private static void planOrder() {
        check.part("promise 23");
        PursuitDesk desk = graph(4, "01 12 23 30");
        is("no searcher", desk.planOrder(0, 0), INVALID);
        desk.put(0);
        is("no plan", desk.planOrder(0, 0), MISSING);
        desk.put(0);
        int[][] due = {{0, 1}, {3, 2}};
        is("turns", desk.planTurns(), 2);
        for (int turn = 0; turn < due.length; turn++) {
            for (int s = 0; s < 2; s++) {
                is("planOrder(" + turn + ", " + s + ")", desk.planOrder(turn, s), due[turn][s]);
            }
        }
        is("not so many turns", desk.planOrder(2, 0), MISSING);
        is("not so many turns", desk.planOrder(MOST, 1), MISSING);
        int[][] wrong = {{-1, 0}, {LEAST, 0}, {0, 2}, {0, -1}, {9, 2}, {0, MOST}};
        for (int[] w : wrong) {
            is("planOrder" + java.util.Arrays.toString(w), desk.planOrder(w[0], w[1]), INVALID);
        }
        desk.bestTurns(3);
        desk.planMoves();
        is("other searches leave the plan", desk.planOrder(1, 1), due[1][1]);
        desk.link(0, 2, 1);
        desk.link(0, 2, 0);
        desk.order(0, 3);
        is("present orders do not count", desk.planOrder(0, 0), 0);
        desk.turn();
        is("a change is seen", desk.planTurns(), 1);
        is("a change is seen", desk.planOrder(0, 0), 2);
        desk.undo();
        is("undo is seen", desk.planTurns(), 2);
        PursuitDesk many = graph(3, "01 12");
        many.put(1);
        many.put(1);
        many.tell(0, 0);
        is("of many plans the lowest node of searcher 0", many.planOrder(0, 0), 0);
        is("and of these the lowest of searcher 1", many.planOrder(0, 1), 0);
        is("though one of them could stay", many.planMoves(), 1);
    }

    private static void planMoves() {
        check.part("promise 24");
        PursuitDesk desk = path4();
        is("no searchers", desk.planMoves(), MISSING);
        desk.put(0);
        is("along the path", desk.planMoves(), 3);
        desk.put(3);
        is("two may go three moves or two", desk.planMoves(), 2);
        PursuitDesk star = graph(4, "01 02 03");
        star.put(0);
        star.put(0);
        is("turns", star.planTurns(), 3);
        is("moves", star.planMoves(), 4);
        star.leave();
        star.leave();
        star.put(1);
        star.put(0);
        is("one is on a leaf", star.planMoves(), 3);
        PursuitDesk ring = graph(4, "01 12 23 30");
        ring.put(0);
        is("no plan", ring.planMoves(), MISSING);
        PursuitDesk guard = graph(5, "01 12 23 34");
        guard.put(1);
        guard.put(4);
        is("the quickest plan takes four moves", guard.planTurns(), 2);
        is("one that takes its time takes three", guard.planMoves(), 3);
        PursuitDesk empty = graph(2, "01");
        empty.put(0);
        empty.put(1);
        is("empty", empty.planMoves(), 0);
    }

    private static void settles() {
        check.part("promise 25");
        PursuitDesk desk = graph(6, "01 12 23 34 45");
        is("all nodes", desk.settles(), 0);
        desk.tell(0, 0);
        is("from an end", desk.settles(), 5);
        desk.put(3);
        is("up to the searcher", desk.settles(), 2);
        desk.order(0, 4);
        is("orders do not count", desk.settles(), 2);
        desk.put(0);
        is("empty", desk.settles(), 0);
        is("nothing changes", desk.count(3), 0);
    }

    private static void leastSearchers() {
        check.part("promise 26");
        is("no edges, 4 nodes", new PursuitDesk().leastSearchers(), MISSING);
        is("no edges, 3 nodes", graph(3, "").leastSearchers(), 3);
        is("no edges, 2 nodes", graph(2, "").leastSearchers(), 2);
        is("one edge", graph(2, "01").leastSearchers(), 1);
        is("a path", path4().leastSearchers(), 1);
        is("a ring", graph(5, "01 12 23 34 40").leastSearchers(), 2);
        is("a star", graph(4, "01 02 03").leastSearchers(), 2);
        is("all edges, 4 nodes", graph(4, "01 02 03 12 13 23").leastSearchers(), 3);
        is("all edges, 6 nodes", graph(6, "01 02 03 04 05 12 13 14 15 23 24 25 34 35 45").leastSearchers(), MISSING);
        PursuitDesk desk = path4();
        desk.put(1);
        desk.put(1);
        desk.tell(0, 3);
        is("searchers and belief do not count", desk.leastSearchers(), 1);
        is("nothing changes", desk.belief(), 8);
    }

    private static void bestTurns() {
        check.part("promise 27");
        PursuitDesk desk = graph(6, "01 12 23 34 45");
        is("bestTurns(1)", desk.bestTurns(1), 5);
        is("bestTurns(2)", desk.bestTurns(2), 2);
        is("bestTurns(3)", desk.bestTurns(3), 1);
        int[] wrong = {LEAST, -1, 0, 4, MOST};
        for (int searchers : wrong) {
            is("bestTurns(" + searchers + ")", desk.bestTurns(searchers), INVALID);
        }
        is("no plan", graph(4, "01 12 23 30").bestTurns(1), MISSING);
        is("a searcher on each node", graph(3, "01 12").bestTurns(3), 0);
        is("a searcher on each node", graph(2, "").bestTurns(2), 0);
        is("apart", graph(4, "01 23").bestTurns(2), 1);
        PursuitDesk put = path4();
        put.put(1);
        put.tell(0, 0);
        is("searchers and belief do not count", put.bestTurns(1), 3);
    }

    private static void type() {
        check.part("promise 28");
        PursuitDesk desk = new PursuitDesk();
        int[] wrong = {LEAST, -1, 31, 127, MOST};
        for (int character : wrong) {
            is("type(" + character + ")", desk.type(character), INVALID);
        }
        is("type(32)", desk.type(32), 1);
        is("type(126)", desk.type(126), 2);
        for (int length = 3; length <= 60; length++) {
            is("type", desk.type('a'), length);
        }
        is("a 61st", desk.type('a'), LIMIT);
        is("a 61st of no kind", desk.type(127), INVALID);
        is("length", desk.clearText(), 60);
    }

    private static void clearText() {
        check.part("promise 29");
        PursuitDesk desk = new PursuitDesk();
        is("clearText", desk.clearText(), 0);
        desk.type('x');
        desk.type('y');
        is("clearText", desk.clearText(), 2);
        is("clearText", desk.clearText(), 0);
        is("fault", desk.fault(), MISSING);
        is("type", desk.type('z'), 1);
    }

    private static void fault() {
        check.part("promise 30");
        String[] texts = {"", "0-1;", "0", "0-", "0-1", "0-1;2", "0-1;1-0;", "0-1;0-1;", "0-4;", "4-0;", "1-1;",
            "0+1;", "0-1:", "0-1; 2-3;", "3-2;0-1;x", "a-1;", "0-1;1-2;2-3;3-0;0-2;1-3;", "0-1;1-2;2-3;3-0;0-2;1-3;2-0;",
            ";", "01;", "0-1;;", "0-/;", "0-1;2-3;2-3;9", " 0-1;", "0--1;"};
        int[] due = {MISSING, MISSING, 0, 0, 0, 4, 4, 4, 0, 0, 0,
            0, 0, 4, 8, 0, MISSING, 24,
            0, 0, 4, 0, 8, 0, 0};
        PursuitDesk desk = new PursuitDesk();
        for (int i = 0; i < texts.length; i++) {
            write(desk, texts[i]);
            is("fault of " + texts[i], desk.fault(), due[i]);
        }
        write(desk, "0-1;4-5;");
        is("4 nodes", desk.fault(), 4);
        desk.reset(6);
        is("6 nodes", desk.fault(), MISSING);
        is("lay", desk.lay(), 2);
        desk.reset(5);
        is("5 nodes", desk.fault(), 4);
    }
}
