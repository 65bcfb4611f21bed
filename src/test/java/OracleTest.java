import java.util.ArrayList;
import java.util.List;
import java.util.Random;

/** Runs of calls from fixed seeds; every answer, and all that can be seen after each call, must be the oracle's. */
public final class OracleTest {
    private static final Check check = new Check();

    private final Random random;
    private final PursuitDesk desk = new PursuitDesk();
    private final Oracle oracle = new Oracle();
    private final List<String> calls = new ArrayList<>();
    private final boolean small;
    private boolean broken = false;

    private OracleTest(long seed, boolean small) {
        this.random = new Random(seed);
        this.small = small;
    }

    public static void main(String[] args) {
        int runs = args.length > 0 ? Integer.parseInt(args[0]) : 1200;
        for (int seed = 1; seed <= runs; seed++) {
            check.part("seed " + seed);
            new OracleTest(seed, seed % 10 != 0).run(300);
        }
        everyGraphOfFourNodes();
        someGraphsOfSixNodes();
        check.end();
    }

    private void same(String call, int got, int due) {
        check.is(call, got, due);
        if (got != due && !broken) {
            broken = true;
            System.out.println("  the calls were " + calls + ", then " + call);
        }
    }

    private void run(int length) {
        start();
        for (int i = 0; i < length && !broken; i++) {
            step();
            compareAll();
        }
    }

    /** Most runs begin with a graph that holds together; blank ones have few plans. */
    private void start() {
        int nodes = 2 + random.nextInt(small ? 4 : 5);
        call("reset", nodes, 0, 0);
        int more = random.nextInt(4);
        for (int node = 1; node < nodes; node++) {
            call("link", random.nextInt(node), node, 1);
        }
        for (int i = 0; i < more; i++) {
            call("link", random.nextInt(nodes), random.nextInt(nodes), 1);
        }
        if (random.nextBoolean()) {
            call("setNews", random.nextInt(4), random.nextInt(8), 0);
        }
    }

    private static final String[] OFTEN = {
        "turn", "turn", "turn", "turn", "turn", "turn", "turn", "turn", "turn", "turn",
        "order", "order", "order", "order", "order", "order", "order", "order",
        "flee", "flee", "flee", "flee", "hide", "put", "put", "leave",
        "link", "link", "link", "tell", "tell", "setNews", "undo", "undo",
        "planTurns", "planOrder", "planOrder", "planMoves", "settles", "ahead",
        "beliefAfter", "evader", "searcher", "count", "neighbours", "belief"};
    private static final String[] SELDOM = {
        "reset", "lay", "release", "leastSearchers", "bestTurns", "type", "clearText", "fault", "text", "undo",
        "setNews", "plan", "back", "back", "back"};

    private void step() {
        String name = random.nextInt(10) == 0 ? SELDOM[random.nextInt(SELDOM.length)] : OFTEN[random.nextInt(OFTEN.length)];
        int nodes = oracle.count(0);
        int t = oracle.count(3);
        int node = random.nextInt(nodes);
        int searcher = random.nextInt(Math.max(1, oracle.count(2)));
        switch (name) {
            case "turn", "flee", "hide", "put", "neighbours" -> call(name, strange(node), 0, 0);
            case "order" -> call(name, strange(searcher), strange(node), 0);
            case "link" -> call(name, strange(node), strange(random.nextInt(nodes)), strange(random.nextInt(2)));
            case "tell" -> call(name, strange(t - random.nextInt(9)), strange(node), 0);
            case "beliefAfter" -> call(name, strange(t - random.nextInt(10)), 0, 0);
            case "setNews" -> call(name, strange(random.nextInt(random.nextBoolean() ? 3 : 10)), strange(random.nextInt(8)), 0);
            case "planOrder" -> call(name, strange(random.nextInt(6)), strange(searcher), 0);
            case "searcher" -> call(name, strange(searcher), strange(random.nextInt(2)), 0);
            case "evader" -> call(name, strange(random.nextInt(5)), 0, 0);
            case "count" -> call(name, strange(random.nextInt(8)), 0, 0);
            case "bestTurns" -> call(name, strange(1 + random.nextInt(3)), 0, 0);
            case "type" -> call(name, strange("0123456-;x".charAt(random.nextInt(10))), 0, 0);
            case "reset" -> call(name, strange(2 + random.nextInt(small ? 4 : 5)), 0, 0);
            case "text" -> text(nodes);
            case "plan" -> wholePlan();
            case "back" -> thereAndBack(nodes);
            default -> call(name, 0, 0, 0);
        }
    }

    /** Changes and their undoing, and then news for an old turn: what was kept must all have come back. */
    private void thereAndBack(int nodes) {
        int changes = 1 + random.nextInt(6);
        for (int i = 0; i < changes; i++) {
            call(random.nextInt(6) == 0 ? "reset" : "turn", nodes, 0, 0);
        }
        for (int i = 0; i < changes; i++) {
            call("undo", 0, 0, 0);
        }
        int turn = Math.max(0, oracle.count(3) + 1 - oracle.count(4));
        call("tell", turn, random.nextInt(nodes), 0);
    }

    /** Now and then another number in place of a fitting one. */
    private int strange(int fitting) {
        int[] others = {-1, fitting + 1, fitting - 1, 7, 10, Integer.MAX_VALUE, Integer.MIN_VALUE};
        return random.nextInt(25) == 0 ? others[random.nextInt(others.length)] : fitting;
    }

    private void text(int nodes) {
        call("clearText", 0, 0, 0);
        int edges = random.nextInt(9);
        for (int i = 0; i < edges; i++) {
            String edge = random.nextInt(nodes) + "-" + random.nextInt(nodes) + (random.nextInt(20) == 0 ? "" : ";");
            for (char c : edge.toCharArray()) {
                call("type", c, 0, 0);
            }
        }
        call("fault", 0, 0, 0);
        call("lay", 0, 0, 0);
    }

    /** The quickest plan, order by order, and one turn beyond it. */
    private void wholePlan() {
        call("planTurns", 0, 0, 0);
        int turns = oracle.planTurns();
        int searchers = oracle.count(2);
        for (int turn = 0; turn <= turns && turn < 20; turn++) {
            for (int s = 0; s < searchers; s++) {
                call("planOrder", turn, s, 0);
            }
        }
    }

    private void call(String name, int a, int b, int c) {
        String told = name + "(" + a + ", " + b + ", " + c + ")";
        same(told, ask(name, a, b, c), askOracle(name, a, b, c));
        calls.add(told);
    }

    private int ask(String name, int a, int b, int c) {
        return switch (name) {
            case "reset" -> desk.reset(a);
            case "link" -> desk.link(a, b, c);
            case "lay" -> desk.lay();
            case "put" -> desk.put(a);
            case "leave" -> desk.leave();
            case "order" -> desk.order(a, b);
            case "release" -> desk.release();
            case "belief" -> desk.belief();
            case "beliefAfter" -> desk.beliefAfter(a);
            case "tell" -> desk.tell(a, b);
            case "turn" -> desk.turn();
            case "undo" -> desk.undo();
            case "count" -> desk.count(a);
            case "neighbours" -> desk.neighbours(a);
            case "searcher" -> desk.searcher(a, b);
            case "hide" -> desk.hide(a);
            case "flee" -> desk.flee(a);
            case "setNews" -> desk.setNews(a, b);
            case "evader" -> desk.evader(a);
            case "ahead" -> desk.ahead();
            case "planTurns" -> desk.planTurns();
            case "planOrder" -> desk.planOrder(a, b);
            case "planMoves" -> desk.planMoves();
            case "settles" -> desk.settles();
            case "leastSearchers" -> desk.leastSearchers();
            case "bestTurns" -> desk.bestTurns(a);
            case "type" -> desk.type(a);
            case "clearText" -> desk.clearText();
            case "fault" -> desk.fault();
            default -> throw new IllegalArgumentException(name);
        };
    }

    private int askOracle(String name, int a, int b, int c) {
        return switch (name) {
            case "reset" -> oracle.reset(a);
            case "link" -> oracle.link(a, b, c);
            case "lay" -> oracle.lay();
            case "put" -> oracle.put(a);
            case "leave" -> oracle.leave();
            case "order" -> oracle.order(a, b);
            case "release" -> oracle.release();
            case "belief" -> oracle.belief();
            case "beliefAfter" -> oracle.beliefAfter(a);
            case "tell" -> oracle.tell(a, b);
            case "turn" -> oracle.turn();
            case "undo" -> oracle.undo();
            case "count" -> oracle.count(a);
            case "neighbours" -> oracle.neighbours(a);
            case "searcher" -> oracle.searcher(a, b);
            case "hide" -> oracle.hide(a);
            case "flee" -> oracle.flee(a);
            case "setNews" -> oracle.setNews(a, b);
            case "evader" -> oracle.evader(a);
            case "ahead" -> oracle.ahead();
            case "planTurns" -> oracle.planTurns();
            case "planOrder" -> oracle.planOrder(a, b);
            case "planMoves" -> oracle.planMoves();
            case "settles" -> oracle.settles();
            case "leastSearchers" -> oracle.leastSearchers();
            case "bestTurns" -> oracle.bestTurns(a);
            case "type" -> oracle.type(a);
            case "clearText" -> oracle.clearText();
            case "fault" -> oracle.fault();
            default -> throw new IllegalArgumentException(name);
        };
    }

    private void compareAll() {
        for (int what = 0; what <= 7; what++) {
            same("count " + what, desk.count(what), oracle.count(what));
        }
        for (int node = 0; node < 6; node++) {
            same("neighbours " + node, desk.neighbours(node), oracle.neighbours(node));
        }
        for (int s = 0; s < 3; s++) {
            same("searcher " + s, desk.searcher(s, 0), oracle.searcher(s, 0));
            same("its order " + s, desk.searcher(s, 1), oracle.searcher(s, 1));
        }
        for (int what = 0; what <= 4; what++) {
            same("evader " + what, desk.evader(what), oracle.evader(what));
        }
        int t = oracle.count(3);
        for (int turn = t - 9; turn <= t + 1; turn++) {
            same("beliefAfter " + turn, desk.beliefAfter(turn), oracle.beliefAfter(turn));
        }
        same("belief", desk.belief(), oracle.belief());
        same("ahead", desk.ahead(), oracle.ahead());
        same("settles", desk.settles(), oracle.settles());
        same("fault", desk.fault(), oracle.fault());
    }

    private static void everyGraphOfFourNodes() {
        for (int nodes = 2; nodes <= 4; nodes++) {
            int pairs = nodes * (nodes - 1) / 2;
            for (int graph = 0; graph < 1 << pairs; graph++) {
                check.part("graph " + graph + " of " + nodes + " nodes");
                OracleTest test = new OracleTest(graph, true);
                test.build(nodes, graph);
                test.plansFromEverywhere();
            }
        }
    }

    private static void someGraphsOfSixNodes() {
        Random graphs = new Random(6);
        for (int i = 0; i < 40; i++) {
            int graph = graphs.nextInt(1 << 15);
            check.part("graph " + graph + " of 6 nodes");
            OracleTest test = new OracleTest(graph, false);
            test.build(6, graph);
            for (int searchers = 0; searchers <= 4; searchers++) {
                test.call("bestTurns", searchers, 0, 0);
            }
            test.call("leastSearchers", 0, 0, 0);
            for (int searchers = 1; searchers <= 3; searchers++) {
                test.call("put", graphs.nextInt(6), 0, 0);
                test.call("planMoves", 0, 0, 0);
                test.wholePlan();
            }
        }
    }

    private void build(int nodes, int graph) {
        call("reset", nodes, 0, 0);
        int pair = 0;
        for (int a = 0; a < nodes; a++) {
            for (int b = a + 1; b < nodes; b++) {
                call("link", a, b, graph >> pair & 1);
                pair++;
            }
        }
    }

    private void plansFromEverywhere() {
        int nodes = oracle.count(0);
        call("leastSearchers", 0, 0, 0);
        for (int searchers = 1; searchers <= 3; searchers++) {
            call("bestTurns", searchers, 0, 0);
        }
        for (int a = 0; a < nodes; a++) {
            call("put", a, 0, 0);
            plans();
            for (int b = 0; b < nodes; b++) {
                call("put", b, 0, 0);
                plans();
                call("put", random.nextInt(nodes), 0, 0);
                plans();
                call("leave", 0, 0, 0);
                call("leave", 0, 0, 0);
            }
            call("leave", 0, 0, 0);
        }
    }

    private void plans() {
        call("release", 0, 0, 0);
        call("planMoves", 0, 0, 0);
        wholePlan();
    }
}
