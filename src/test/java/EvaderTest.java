import java.util.ArrayList;
import java.util.List;
import java.util.Random;

/**
 * What the document says of belief, evader and plan must fit together, whoever computes it: here hidden evaders go all
 * ways there are, and searchers follow all plans there are, by calls alone. Seeds are fixed.
 */
public final class EvaderTest {
    private static final Check check = new Check();
    private final Random random;
    private final int nodes;
    private final List<String> graph = new ArrayList<>();
    private final List<Integer> places = new ArrayList<>();

    private EvaderTest(long seed, int mostNodes, int mostSearchers) {
        random = new Random(seed);
        nodes = 2 + random.nextInt(mostNodes - 1);
        for (int node = 1; node < nodes; node++) {
            graph.add("link(" + random.nextInt(node) + "," + node + ",1) ");
        }
        for (int i = random.nextInt(3); i > 0; i--) {
            graph.add("link(" + random.nextInt(nodes) + "," + random.nextInt(nodes) + ",1) ");
        }
        for (int i = random.nextInt(mostSearchers + 1); i > 0; i--) {
            places.add(random.nextInt(nodes));
        }
    }

    public static void main(String[] args) {
        for (int seed = 1; seed <= 300; seed++) {
            check.part("seed " + seed + ", promise 12 (The belief is the set of all nodes at which the evader can be)");
            new EvaderTest(seed, 4, 3).beliefIsWhereAnEvaderCanBe();
            check.part("seed " + seed + ", promise 22 (A plan is a sequence of turns, whatever the evader does)");
            new EvaderTest(seed, 5, 3).planCatchesWhateverItDoes();
            check.part("seed " + seed + ", promise 23 (The quickest plan, of several the one with the lowest nodes)");
            new EvaderTest(seed, 4, 2).planIsTheFirstOfTheQuickest();
            check.part("seed " + seed + ", promise 19 (news is given by itself)");
            new EvaderTest(seed, 6, 2).newsTellsTheTruth();
        }
        check.end();
    }

    private String start() {
        StringBuilder calls = new StringBuilder("reset(" + nodes + ") ");
        graph.forEach(calls::append);
        places.forEach(place -> calls.append("put(").append(place).append(") "));
        return calls.toString();
    }

    private static PursuitDesk after(String calls) {
        return new Script().run(check, calls).desk;
    }

    private static boolean contains(int set, int node) {
        return (set >> node & 1) == 1;
    }

    /** Random orders that are possible where the searchers are then. */
    private String someOrders(String before) {
        PursuitDesk desk = after(before);
        StringBuilder calls = new StringBuilder();
        for (int i = 0; i < places.size(); i++) {
            int node = random.nextInt(nodes);
            if (desk.order(i, node) >= 0) {
                calls.append("order(" + i + "," + node + ") ");
            }
        }
        return calls.toString();
    }

    private void beliefIsWhereAnEvaderCanBe() {
        List<String> turns = new ArrayList<>();
        String calls = start();
        for (int turn = 0; turn < 3; turn++) {
            turns.add(someOrders(calls));
            calls += turns.get(turn) + "turn() ";
        }
        check.is("belief after " + calls, after(calls).belief(), nodesOfFreeEvaders(turns));
    }

    /** Where evaders are in the end that go from every node of the belief, on every way, and are not caught. */
    private int nodesOfFreeEvaders(List<String> turns) {
        int found = 0;
        PursuitDesk first = after(start());
        for (int node = 0; node < nodes; node++) {
            if (contains(first.belief(), node)) {
                found |= nodesBehind(start() + "hide(" + node + ") ", turns, 0);
            }
        }
        return found;
    }

    private int nodesBehind(String before, List<String> turns, int turn) {
        PursuitDesk desk = after(before);
        if (desk.evader(2) == 1) {
            return 0;
        }
        if (turn >= turns.size()) {
            return 1 << desk.evader(0);
        }
        int found = 0;
        for (int node = 0; node < nodes; node++) {
            if (node == desk.evader(0) || contains(desk.neighbours(desk.evader(0)), node)) {
                found |= nodesBehind(before + turns.get(turn) + "flee(" + node + ") turn() ", turns, turn + 1);
            }
        }
        return found;
    }

    private void planCatchesWhateverItDoes() {
        PursuitDesk desk = after(start());
        int length = desk.planTurns();
        if (length < 0 || length > 4) {
            return;
        }
        List<String> turns = new ArrayList<>();
        for (int turn = 0; turn < length; turn++) {
            StringBuilder orders = new StringBuilder();
            for (int i = 0; i < places.size(); i++) {
                orders.append("order(" + i + "," + desk.planOrder(turn, i) + ") ");
            }
            turns.add(orders.toString());
        }
        check.is("free after the plan of " + start(), nodesOfFreeEvaders(turns), 0);
        if (length > 0) {
            check.holds("one could be free before its end", nodesOfFreeEvaders(turns.subList(0, length - 1)) != 0);
        }
    }

    private void planIsTheFirstOfTheQuickest() {
        PursuitDesk desk = after(start());
        int length = desk.planTurns();
        int mostTurns = places.size() > 1 ? 2 : 4;
        String quickest = null;
        for (int turns = 0; turns <= mostTurns && quickest == null; turns++) {
            quickest = firstPlan(start(), turns, 0, "");
        }
        if (quickest == null) {
            check.holds("no plan of so few turns: " + start(), length < 0 || length > mostTurns);
            return;
        }
        StringBuilder told = new StringBuilder();
        for (int turn = 0; turn < length; turn++) {
            for (int i = 0; i < places.size(); i++) {
                told.append(desk.planOrder(turn, i));
            }
        }
        check.holds("plan of " + start() + " is " + told + ", due is " + quickest, told.toString().equals(quickest));
        check.holds("not more moves than it has", desk.planMoves() >= 0 && desk.planMoves() <= quickest.length());
    }

    /** Tries all orders by rising nodes, searcher by searcher, then the next turn; null if the belief is never empty. */
    private String firstPlan(String before, int turnsLeft, int searcher, String orders) {
        if (turnsLeft == 0) {
            return after(before).belief() == 0 ? orders : null;
        }
        if (searcher == places.size()) {
            return firstPlan(before + "turn() ", turnsLeft - 1, 0, orders);
        }
        for (int node = 0; node < nodes; node++) {
            if (after(before).order(searcher, node) >= 0) {
                String plan = firstPlan(before + "order(" + searcher + "," + node + ") ", turnsLeft, searcher + 1, orders + node);
                if (plan != null) {
                    return plan;
                }
            }
        }
        return null;
    }

    /** News by itself and news that is true never take the evader out of the belief, now or then. */
    private void newsTellsTheTruth() {
        PursuitDesk desk = after(start());
        int node = random.nextInt(nodes);
        desk.setNews(random.nextInt(4), random.nextInt(8));
        if (desk.hide(node) != 1) {
            return;
        }
        List<Integer> trail = new ArrayList<>(List.of(node));
        for (int i = 0; i < 60; i++) {
            change(desk, trail);
            if (desk.evader(2) == 1) {
                return;
            }
            for (int turn = 0; turn < trail.size(); turn++) {
                int belief = desk.beliefAfter(turn);
                check.holds("turn " + turn + " of " + trail + " in " + belief, belief == PursuitDesk.NOT_FOUND
                    || contains(belief, trail.get(turn)));
            }
        }
    }

    private void change(PursuitDesk desk, List<Integer> trail) {
        int node = random.nextInt(nodes);
        switch (random.nextInt(8)) {
            case 0 -> desk.flee(node);
            case 1 -> desk.order(random.nextInt(3), node);
            case 2 -> desk.link(node, random.nextInt(nodes), random.nextInt(2));
            case 3 -> tellTruth(desk, trail);
            case 4 -> desk.setNews(random.nextInt(4), random.nextInt(8));
            case 5 -> desk.release();
            default -> {
                desk.turn();
                trail.add(desk.evader(0));
            }
        }
    }

    private void tellTruth(PursuitDesk desk, List<Integer> trail) {
        int turn = random.nextInt(trail.size());
        int answer = desk.tell(turn, trail.get(turn));
        check.holds("what is true can be told: " + answer, answer > 0 || answer == PursuitDesk.NOT_FOUND);
    }
}
