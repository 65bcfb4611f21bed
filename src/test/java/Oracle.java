import java.util.ArrayDeque;
import java.util.ArrayList;
import java.util.Deque;
import java.util.LinkedHashMap;
import java.util.List;
import java.util.Map;
import java.util.Set;
import java.util.HashSet;
import java.util.TreeMap;
import java.util.TreeSet;
import java.util.regex.Matcher;
import java.util.regex.Pattern;

/**
 * The document once more, slowly and in its own words, to compare PursuitDesk with: beliefs are sets
 * that are gone over move by move, states are copied whole, and plans are found backwards from the
 * empty belief. It shares no code with the class.
 */
final class Oracle {
    private static final int INVALID = -1;
    private static final int IMPOSSIBLE = -2;
    private static final int LIMIT = -3;
    private static final int MISSING = -4;

    /** A belief after a turn, with the moves and the edges of this turn. */
    private static final class Kept {
        int turn;
        Set<Integer> belief = new TreeSet<>();
        List<int[]> moves = new ArrayList<>();
        boolean[][] edges;

        Kept copy() {
            Kept k = new Kept();
            k.turn = turn;
            k.belief = new TreeSet<>(belief);
            k.moves = moves;
            k.edges = edges;
            return k;
        }
    }

    private static final class Hidden {
        int node;
        int order;
        boolean caught;
        int caughtAt;
        int hiddenAt;
        Map<Integer, Integer> nodeAfter = new TreeMap<>();

        Hidden copy() {
            Hidden h = new Hidden();
            h.node = node;
            h.order = order;
            h.caught = caught;
            h.caughtAt = caughtAt;
            h.hiddenAt = hiddenAt;
            h.nodeAfter = new TreeMap<>(nodeAfter);
            return h;
        }
    }

    private static final class World {
        int n = 4;
        boolean[][] edges = new boolean[4][4];
        List<int[]> searchers = new ArrayList<>();
        int t;
        int period;
        int delay;
        List<Kept> kept = new ArrayList<>();
        Hidden hidden;

        World copy() {
            World w = new World();
            w.n = n;
            w.edges = copyOf(edges);
            for (int[] s : searchers) {
                w.searchers.add(s.clone());
            }
            w.t = t;
            w.period = period;
            w.delay = delay;
            for (Kept k : kept) {
                w.kept.add(k.copy());
            }
            w.hidden = hidden == null ? null : hidden.copy();
            return w;
        }
    }

    private World w = new World();
    private final Deque<World> history = new ArrayDeque<>();
    private String text = "";

    Oracle() {
        anew();
    }

    private static boolean[][] copyOf(boolean[][] edges) {
        boolean[][] copy = new boolean[edges.length][];
        for (int i = 0; i < edges.length; i++) {
            copy[i] = edges[i].clone();
        }
        return copy;
    }

    private static int mask(Set<Integer> set) {
        int mask = 0;
        for (int node : set) {
            mask += 1 << node;
        }
        return mask;
    }

    private boolean noNode(int node) {
        return node < 0 || node >= w.n;
    }

    private boolean noSearcher(int s) {
        return s < 0 || s >= w.searchers.size();
    }

    private boolean searcherAt(int node) {
        for (int[] s : w.searchers) {
            if (s[0] == node) {
                return true;
            }
        }
        return false;
    }

    private Kept present() {
        return w.kept.get(w.kept.size() - 1);
    }

    private Kept keptAfter(int turn) {
        for (Kept k : w.kept) {
            if (k.turn == turn) {
                return k;
            }
        }
        return null;
    }

    private void anew() {
        Kept k = new Kept();
        k.turn = w.t;
        for (int node = 0; node < w.n; node++) {
            if (!searcherAt(node)) {
                k.belief.add(node);
            }
        }
        w.kept.clear();
        w.kept.add(k);
    }

    private void change() {
        history.addLast(w.copy());
        if (history.size() == 6) {
            history.removeFirst();
        }
    }

    private static boolean meets(int from, int to, List<int[]> moves) {
        for (int[] m : moves) {
            if (m[1] == to || (from != to && m[0] == to && m[1] == from)) {
                return true;
            }
        }
        return false;
    }

    private static Set<Integer> spread(Set<Integer> belief, boolean[][] edges, List<int[]> moves) {
        Set<Integer> next = new TreeSet<>();
        for (int from : belief) {
            for (int to = 0; to < edges.length; to++) {
                if ((from == to || edges[from][to]) && !meets(from, to, moves)) {
                    next.add(to);
                }
            }
        }
        return next;
    }

    private List<int[]> moves(boolean byOrders) {
        List<int[]> moves = new ArrayList<>();
        for (int[] s : w.searchers) {
            moves.add(new int[] {s[0], byOrders ? s[1] : s[0]});
        }
        return moves;
    }

    int reset(int nodes) {
        if (nodes < 2 || nodes > 6) {
            return INVALID;
        }
        change();
        int before = w.n;
        World fresh = new World();
        fresh.n = nodes;
        fresh.edges = new boolean[nodes][nodes];
        fresh.period = w.period;
        fresh.delay = w.delay;
        w = fresh;
        anew();
        return before;
    }

    int link(int a, int b, int is) {
        if (noNode(a) || noNode(b) || a == b || (is != 0 && is != 1)) {
            return INVALID;
        }
        change();
        int before = w.edges[a][b] ? 1 : 0;
        w.edges[a][b] = is == 1;
        w.edges[b][a] = is == 1;
        if (is == 0) {
            for (int[] s : w.searchers) {
                if ((s[0] == a && s[1] == b) || (s[0] == b && s[1] == a)) {
                    s[1] = s[0];
                }
            }
            Hidden h = w.hidden;
            if (h != null && ((h.node == a && h.order == b) || (h.node == b && h.order == a))) {
                h.order = h.node;
            }
        }
        return before;
    }

    int lay() {
        if (fault() != MISSING) {
            return IMPOSSIBLE;
        }
        change();
        w.edges = new boolean[w.n][w.n];
        int edges = 0;
        for (String edge : text.split(";")) {
            if (!edge.isEmpty()) {
                int a = edge.charAt(0) - '0';
                int b = edge.charAt(2) - '0';
                w.edges[a][b] = true;
                w.edges[b][a] = true;
                edges++;
            }
        }
        for (int[] s : w.searchers) {
            s[1] = s[0];
        }
        if (w.hidden != null) {
            w.hidden.order = w.hidden.node;
        }
        anew();
        return edges;
    }

    int put(int node) {
        if (noNode(node)) {
            return INVALID;
        }
        if (w.searchers.size() == 3) {
            return LIMIT;
        }
        change();
        w.searchers.add(new int[] {node, node});
        present().belief.remove(node);
        Hidden h = w.hidden;
        if (h != null && !h.caught && h.node == node) {
            h.caught = true;
            h.caughtAt = w.t;
            h.order = node;
        }
        return w.searchers.size() - 1;
    }

    int leave() {
        if (w.searchers.isEmpty()) {
            return IMPOSSIBLE;
        }
        change();
        w.searchers.remove(w.searchers.size() - 1);
        return w.searchers.size();
    }

    int order(int searcher, int node) {
        if (noSearcher(searcher) || noNode(node)) {
            return INVALID;
        }
        int at = w.searchers.get(searcher)[0];
        if (node != at && !w.edges[at][node]) {
            return IMPOSSIBLE;
        }
        change();
        int before = w.searchers.get(searcher)[1];
        w.searchers.get(searcher)[1] = node;
        return before;
    }

    int release() {
        change();
        anew();
        return belief();
    }

    int belief() {
        return mask(present().belief);
    }

    int beliefAfter(int turn) {
        if (turn < 0 || turn > w.t) {
            return INVALID;
        }
        Kept k = keptAfter(turn);
        return k == null ? MISSING : mask(k.belief);
    }

    private void news(int turn, int node) {
        Kept told = keptAfter(turn);
        if (told == null || !told.belief.contains(node)) {
            return;
        }
        told.belief = new TreeSet<>(Set.of(node));
        Kept before = told;
        for (int later = turn + 1; later <= w.t; later++) {
            Kept k = keptAfter(later);
            k.belief.retainAll(spread(before.belief, k.edges, k.moves));
            before = k;
        }
    }

    int tell(int turn, int node) {
        if (turn < 0 || turn > w.t || noNode(node)) {
            return INVALID;
        }
        Kept k = keptAfter(turn);
        if (k != null && !k.belief.contains(node)) {
            return IMPOSSIBLE;
        }
        if (k == null) {
            return MISSING;
        }
        change();
        news(turn, node);
        return belief();
    }

    int turn() {
        if (w.t == 10000) {
            return LIMIT;
        }
        change();
        w.t++;
        Kept k = new Kept();
        k.turn = w.t;
        k.moves = moves(true);
        k.edges = copyOf(w.edges);
        k.belief = spread(present().belief, k.edges, k.moves);
        w.kept.add(k);
        if (w.kept.size() > 8) {
            w.kept.remove(0);
        }
        for (int[] s : w.searchers) {
            s[0] = s[1];
        }
        Hidden h = w.hidden;
        if (h != null && !h.caught) {
            if (meets(h.node, h.order, k.moves)) {
                h.caught = true;
                h.caughtAt = w.t;
            }
            h.node = h.order;
            h.nodeAfter.put(w.t, h.node);
            int told = w.t - w.delay;
            if (!h.caught && w.period != 0 && w.t % w.period == 0 && told >= 0 && h.hiddenAt <= told) {
                news(told, h.nodeAfter.get(told));
            }
        }
        return belief();
    }

    int undo() {
        if (history.isEmpty()) {
            return IMPOSSIBLE;
        }
        w = history.removeLast();
        return history.size();
    }

    int count(int what) {
        int edges = 0;
        for (int node = 0; node < w.n; node++) {
            edges += Integer.bitCount(neighbours(node));
        }
        int[] all = {w.n, edges / 2, w.searchers.size(), w.t, w.kept.size(), w.period, w.delay, history.size()};
        return what < 0 || what >= all.length ? INVALID : all[what];
    }

    int neighbours(int node) {
        if (noNode(node)) {
            return INVALID;
        }
        int set = 0;
        for (int other = 0; other < w.n; other++) {
            set |= w.edges[node][other] ? 1 << other : 0;
        }
        return set;
    }

    int searcher(int searcher, int what) {
        return noSearcher(searcher) || what < 0 || what > 1 ? INVALID : w.searchers.get(searcher)[what];
    }

    int hide(int node) {
        if (noNode(node)) {
            return INVALID;
        }
        if (searcherAt(node)) {
            return IMPOSSIBLE;
        }
        change();
        Hidden h = new Hidden();
        h.node = node;
        h.order = node;
        h.hiddenAt = w.t;
        h.nodeAfter.put(w.t, node);
        w.hidden = h;
        return present().belief.contains(node) ? 1 : 0;
    }

    int flee(int node) {
        if (noNode(node)) {
            return INVALID;
        }
        Hidden h = w.hidden;
        if (h == null || h.caught || (h.node != node && !w.edges[h.node][node])) {
            return IMPOSSIBLE;
        }
        change();
        int before = w.hidden.order;
        w.hidden.order = node;
        return before;
    }

    int setNews(int period, int delay) {
        if (period < 0 || period > 9 || delay < 0 || delay > 7) {
            return INVALID;
        }
        change();
        int before = w.period * 10 + w.delay;
        w.period = period;
        w.delay = delay;
        return before;
    }

    int evader(int what) {
        if (what < 0 || what > 4) {
            return INVALID;
        }
        Hidden h = w.hidden;
        if (h == null) {
            return MISSING;
        }
        return new int[] {h.node, h.order, h.caught ? 1 : 0, h.caught ? h.caughtAt : 0, h.hiddenAt}[what];
    }

    int ahead() {
        return mask(spread(present().belief, w.edges, moves(true)));
    }

    int settles() {
        Set<Integer> belief = present().belief;
        int turns = 0;
        int at = 0;
        for (int turn = 1; turn <= 100; turn++) {
            Set<Integer> next = spread(belief, w.edges, moves(false));
            at++;
            if (!next.equals(belief)) {
                turns = at;
            }
            belief = next;
        }
        return turns;
    }

    /** For one graph and one number of searchers: how far it is from each situation to the empty belief. */
    private static final class Table {
        final int n;
        final int k;
        final List<int[]> places = new ArrayList<>();
        final int[][][] next;
        final int[][] toOf;
        final int[][] turns;
        final int[][] moves;

        Table(int n, int k, boolean[][] edges) {
            this.n = n;
            this.k = k;
            int all = 1;
            for (int i = 0; i < k; i++) {
                all *= n;
            }
            for (int p = 0; p < all; p++) {
                int[] place = new int[k];
                int rest = p;
                for (int i = k - 1; i >= 0; i--) {
                    place[i] = rest % n;
                    rest /= n;
                }
                places.add(place);
            }
            next = new int[all][1 << n][];
            toOf = new int[all][];
            turns = new int[all][1 << n];
            moves = new int[all][1 << n];
            for (int p = 0; p < all; p++) {
                findNext(p, edges);
            }
            findTurns();
            findMoves();
        }

        int indexOf(int[] place) {
            int index = 0;
            for (int node : place) {
                index = index * n + node;
            }
            return index;
        }

        int startBelief(int p) {
            int belief = (1 << n) - 1;
            for (int node : places.get(p)) {
                belief &= ~(1 << node);
            }
            return belief;
        }

        private void findNext(int p, boolean[][] edges) {
            int[] from = places.get(p);
            List<Integer> reachable = new ArrayList<>();
            List<int[]> single = new ArrayList<>();
            for (int q = 0; q < places.size(); q++) {
                int[] to = places.get(q);
                boolean possible = true;
                List<int[]> steps = new ArrayList<>();
                for (int i = 0; i < k; i++) {
                    possible &= from[i] == to[i] || edges[from[i]][to[i]];
                    steps.add(new int[] {from[i], to[i]});
                }
                if (possible) {
                    int[] spreads = new int[n];
                    for (int node = 0; node < n; node++) {
                        spreads[node] = mask(spread(Set.of(node), edges, steps));
                    }
                    reachable.add(q);
                    single.add(spreads);
                }
            }
            toOf[p] = reachable.stream().mapToInt(Integer::intValue).toArray();
            int start = startBelief(p);
            for (int belief = 0; belief < 1 << n; belief++) {
                if ((belief & ~start) == 0) {
                    next[p][belief] = new int[toOf[p].length];
                    for (int i = 0; i < toOf[p].length; i++) {
                        for (int node = 0; node < n; node++) {
                            next[p][belief][i] |= (belief >> node & 1) == 1 ? single.get(i)[node] : 0;
                        }
                    }
                }
            }
        }

        private void findTurns() {
            for (int[] row : turns) {
                java.util.Arrays.fill(row, MISSING);
                row[0] = 0;
            }
            boolean more = true;
            for (int d = 1; more; d++) {
                more = false;
                for (int p = 0; p < places.size(); p++) {
                    for (int b = 1; b < 1 << n; b++) {
                        if (next[p][b] != null && turns[p][b] == MISSING && choice(p, b, d) >= 0) {
                            turns[p][b] = d;
                            more = true;
                        }
                    }
                }
            }
        }

        /** The first orders, by rising nodes, that lead on to a situation of d - 1 turns. */
        int choice(int p, int b, int d) {
            for (int i = 0; i < toOf[p].length; i++) {
                if (turns[toOf[p][i]][next[p][b][i]] == d - 1) {
                    return i;
                }
            }
            return -1;
        }

        private void findMoves() {
            for (int[] row : moves) {
                java.util.Arrays.fill(row, 1000000);
                row[0] = 0;
            }
            boolean more = true;
            while (more) {
                more = false;
                for (int p = 0; p < places.size(); p++) {
                    for (int b = 1; b < 1 << n; b++) {
                        if (next[p][b] != null && relax(p, b)) {
                            more = true;
                        }
                    }
                }
            }
        }

        private boolean relax(int p, int b) {
            int before = moves[p][b];
            for (int i = 0; i < toOf[p].length; i++) {
                int price = 0;
                for (int s = 0; s < k; s++) {
                    price += places.get(p)[s] != places.get(toOf[p][i])[s] ? 1 : 0;
                }
                moves[p][b] = Math.min(moves[p][b], price + moves[toOf[p][i]][next[p][b][i]]);
            }
            return moves[p][b] < before;
        }
    }

    private static final Map<String, Table> TABLES = new LinkedHashMap<>();

    private Table table(int k) {
        StringBuilder key = new StringBuilder().append(w.n).append('/').append(k);
        for (int node = 0; node < w.n; node++) {
            key.append('/').append(neighbours(node));
        }
        Table found = TABLES.get(key.toString());
        if (found == null) {
            if (TABLES.size() > 60) {
                TABLES.clear();
            }
            found = new Table(w.n, k, w.edges);
            TABLES.put(key.toString(), found);
        }
        return found;
    }

    private int place(Table table) {
        int[] place = new int[w.searchers.size()];
        for (int i = 0; i < place.length; i++) {
            place[i] = w.searchers.get(i)[0];
        }
        return table.indexOf(place);
    }

    int planTurns() {
        Table table = table(w.searchers.size());
        return table.turns[place(table)][belief()];
    }

    int planOrder(int turn, int searcher) {
        if (turn < 0 || noSearcher(searcher)) {
            return INVALID;
        }
        int turns = planTurns();
        if (turn >= turns) {
            return MISSING;
        }
        Table table = table(w.searchers.size());
        int p = place(table);
        int b = belief();
        for (int i = 0; i <= turn; i++) {
            int choice = table.choice(p, b, turns - i);
            b = table.next[p][b][choice];
            p = table.toOf[p][choice];
        }
        return table.places.get(p)[searcher];
    }

    int planMoves() {
        Table table = table(w.searchers.size());
        int moves = table.moves[place(table)][belief()];
        return moves >= 1000000 ? MISSING : moves;
    }

    int bestTurns(int searchers) {
        if (searchers < 1 || searchers > 3) {
            return INVALID;
        }
        Table table = table(searchers);
        int best = MISSING;
        for (int p = 0; p < table.places.size(); p++) {
            int turns = table.turns[p][table.startBelief(p)];
            if (turns != MISSING && (best == MISSING || turns < best)) {
                best = turns;
            }
        }
        return best;
    }

    int leastSearchers() {
        for (int k = 1; k <= 3; k++) {
            if (bestTurns(k) >= 0) {
                return k;
            }
        }
        return MISSING;
    }

    int type(int character) {
        if (character < 32 || character > 126) {
            return INVALID;
        }
        if (text.length() == 60) {
            return LIMIT;
        }
        text += (char) character;
        return text.length();
    }

    int clearText() {
        int before = text.length();
        text = "";
        return before;
    }

    int fault() {
        Pattern pattern = Pattern.compile("([0-9])-([0-9]);");
        Matcher matcher = pattern.matcher(text);
        Set<Set<Integer>> seen = new HashSet<>();
        int position = 0;
        while (position < text.length()) {
            matcher.region(position, text.length());
            if (!matcher.lookingAt()) {
                return position;
            }
            int a = Integer.parseInt(matcher.group(1));
            int b = Integer.parseInt(matcher.group(2));
            if (a >= w.n || b >= w.n || a == b || !seen.add(Set.of(a, b))) {
                return position;
            }
            position = matcher.end();
        }
        return MISSING;
    }
}
