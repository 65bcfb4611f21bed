/**
 * Pursuit on small graphs: searchers move along edges by orders, an evader moves unseen, delayed
 * news tells where it was. README.md says how to use it; the promises are those of DOC.md.
 */
public final class PursuitDesk {
    public static final int INVALID_ARGUMENT = -1;
    public static final int NOT_POSSIBLE = -2;
    public static final int LIMIT_REACHED = -3;
    public static final int NOT_FOUND = -4;

    private static final int FEWEST_NODES = 2;
    private static final int FIRST_NODES = 4;
    private static final int MOST_NODES = 6;
    private static final int MOST_SEARCHERS = 3;
    private static final int LAST_TURN = 10000;
    private static final int LONGEST_PERIOD = 9;
    private static final int LONGEST_DELAY = 7;
    private static final int LONGEST_HISTORY = 5;
    private static final int LONGEST_TEXT = 60;
    private static final int FIRST_CHARACTER = 32;
    private static final int LAST_CHARACTER = 126;
    private static final int EDGE_LENGTH = 4;

    private final State now;
    private final State[] history;
    private int recorded;
    private final char[] text;
    private int textLength;
    private final TurnSearch plan;
    private boolean planIsKnown;
    private final TurnSearch bestStart;
    private final MoveSearch cheapest;

    public PursuitDesk() {
        now = new State();
        history = new State[LONGEST_HISTORY];
        for (int i = 0; i < LONGEST_HISTORY; i++) {
            history[i] = new State();
        }
        text = new char[LONGEST_TEXT];
        plan = new TurnSearch();
        bestStart = new TurnSearch();
        cheapest = new MoveSearch();
        now.startAnew(FIRST_NODES);
    }

    // ---- the graph and the searchers

    public int reset(int nodes) {
        if (nodes < FEWEST_NODES || nodes > MOST_NODES) {
            return INVALID_ARGUMENT;
        }
        remember();
        int before = now.nodes;
        now.startAnew(nodes);
        return before;
    }

    public int link(int a, int b, int is) {
        if (!isNode(a) || !isNode(b) || a == b || is < 0 || is > 1) {
            return INVALID_ARGUMENT;
        }
        remember();
        int before = now.joins(a, b) ? 1 : 0;
        if (is == 1) {
            now.paths |= Ways.edge(a, b);
        } else {
            now.cut(a, b);
        }
        return before;
    }

    public int lay() {
        if (fault() != NOT_FOUND) {
            return NOT_POSSIBLE;
        }
        remember();
        now.replaceEdges(textEdges());
        return now.edges();
    }

    public int put(int node) {
        if (!isNode(node)) {
            return INVALID_ARGUMENT;
        }
        if (now.searchers >= MOST_SEARCHERS) {
            return LIMIT_REACHED;
        }
        remember();
        now.addSearcher(node);
        return now.searchers - 1;
    }

    public int leave() {
        if (now.searchers <= 0) {
            return NOT_POSSIBLE;
        }
        remember();
        now.searchers--;
        return now.searchers;
    }

    public int order(int searcher, int node) {
        if (!isSearcher(searcher) || !isNode(node)) {
            return INVALID_ARGUMENT;
        }
        if (!now.joins(now.at[searcher], node)) {
            return NOT_POSSIBLE;
        }
        remember();
        int before = now.aim[searcher];
        now.aim[searcher] = node;
        return before;
    }

    public int release() {
        remember();
        now.forgetBeliefs();
        return belief();
    }

    public int belief() {
        return now.beliefs.after(now.turn);
    }

    public int beliefAfter(int turn) {
        if (turn < 0 || turn > now.turn) {
            return INVALID_ARGUMENT;
        }
        return now.beliefs.keeps(turn) ? now.beliefs.after(turn) : NOT_FOUND;
    }

    public int tell(int turn, int node) {
        if (turn < 0 || turn > now.turn || !isNode(node)) {
            return INVALID_ARGUMENT;
        }
        if (!now.beliefs.keeps(turn)) {
            return NOT_FOUND;
        }
        if (!Ways.contains(now.beliefs.after(turn), node)) {
            return NOT_POSSIBLE;
        }
        remember();
        now.beliefs.narrow(turn, node);
        return belief();
    }

    public int turn() {
        if (now.turn >= LAST_TURN) {
            return LIMIT_REACHED;
        }
        remember();
        now.makeTurn();
        now.giveNews();
        return belief();
    }

    public int undo() {
        if (recorded <= 0) {
            return NOT_POSSIBLE;
        }
        recorded--;
        now.copyFrom(history[recorded]);
        planIsKnown = false;
        return recorded;
    }

    public int count(int what) {
        switch (what) {
            case 0:
                return now.nodes;
            case 1:
                return now.edges();
            case 2:
                return now.searchers;
            case 3:
                return now.turn;
            case 4:
                return now.beliefs.kept;
            case 5:
                return now.period;
            case 6:
                return now.delay;
            case 7:
                return recorded;
            default:
                return INVALID_ARGUMENT;
        }
    }

    public int neighbours(int node) {
        if (!isNode(node)) {
            return INVALID_ARGUMENT;
        }
        return Ways.from(now.paths, node) & ~(1 << node);
    }

    public int searcher(int searcher, int what) {
        if (!isSearcher(searcher) || what < 0 || what > 1) {
            return INVALID_ARGUMENT;
        }
        return what == 0 ? now.at[searcher] : now.aim[searcher];
    }

    // ---- the hidden evader

    public int hide(int node) {
        if (!isNode(node)) {
            return INVALID_ARGUMENT;
        }
        if (Ways.contains(now.occupied(), node)) {
            return NOT_POSSIBLE;
        }
        remember();
        now.evader.hideAt(node, now.turn);
        return Ways.contains(belief(), node) ? 1 : 0;
    }

    public int flee(int node) {
        if (!isNode(node)) {
            return INVALID_ARGUMENT;
        }
        if (!now.evader.isFree() || !now.joins(now.evader.node, node)) {
            return NOT_POSSIBLE;
        }
        remember();
        int before = now.evader.aim;
        now.evader.aim = node;
        return before;
    }

    public int setNews(int period, int delay) {
        if (period < 0 || period > LONGEST_PERIOD || delay < 0 || delay > LONGEST_DELAY) {
            return INVALID_ARGUMENT;
        }
        remember();
        int before = 10 * now.period + now.delay;
        now.period = period;
        now.delay = delay;
        return before;
    }

    public int evader(int what) {
        if (what < 0 || what > 4) {
            return INVALID_ARGUMENT;
        }
        return now.evader.there ? now.evader.property(what) : NOT_FOUND;
    }

    // ---- what could be; nothing changes

    public int ahead() {
        return Ways.spread(now.freeWays(now.aim), belief());
    }

    public int planTurns() {
        knowPlan();
        return plan.turns();
    }

    public int planOrder(int turn, int searcher) {
        if (turn < 0 || !isSearcher(searcher)) {
            return INVALID_ARGUMENT;
        }
        knowPlan();
        // Without a plan its number of turns is negative, so this covers both.
        if (turn >= plan.turns()) {
            return NOT_FOUND;
        }
        return plan.nodeAfter(turn + 1, searcher);
    }

    public int planMoves() {
        cheapest.prepare(now.nodes, now.paths, now.searchers);
        return cheapest.fewestMoves(cheapest.numberOf(now.at, belief()));
    }

    public int settles() {
        long ways = now.freeWays(now.at);
        int belief = belief();
        // Who stays loses no node, so the belief can only grow: at most once a node.
        for (int turns = 0; turns < MOST_NODES; turns++) {
            int next = Ways.spread(ways, belief);
            if (next == belief) {
                return turns;
            }
            belief = next;
        }
        return MOST_NODES;
    }

    public int leastSearchers() {
        for (int searchers = 1; searchers <= MOST_SEARCHERS; searchers++) {
            if (turnsFromBestStart(searchers) != NOT_FOUND) {
                return searchers;
            }
        }
        return NOT_FOUND;
    }

    public int bestTurns(int searchers) {
        if (searchers < 1 || searchers > MOST_SEARCHERS) {
            return INVALID_ARGUMENT;
        }
        return turnsFromBestStart(searchers);
    }

    // ---- texts

    public int type(int character) {
        if (character < FIRST_CHARACTER || character > LAST_CHARACTER) {
            return INVALID_ARGUMENT;
        }
        if (textLength >= LONGEST_TEXT) {
            return LIMIT_REACHED;
        }
        text[textLength] = (char) character;
        textLength++;
        return textLength;
    }

    public int clearText() {
        int before = textLength;
        textLength = 0;
        return before;
    }

    public int fault() {
        long seen = 0;
        for (int start = 0; start < textLength; start += EDGE_LENGTH) {
            long edge = edgeAt(start);
            if (edge == 0 || (seen & edge) != 0) {
                return start;
            }
            seen |= edge;
        }
        return NOT_FOUND;
    }

    // ---- helpers

    private boolean isNode(int node) {
        return node >= 0 && node < now.nodes;
    }

    private boolean isSearcher(int searcher) {
        return searcher >= 0 && searcher < now.searchers;
    }

    /** Every change passes here once it is sure to be no error, before anything becomes different. */
    private void remember() {
        if (recorded >= LONGEST_HISTORY) {
            dropOldest();
        }
        history[recorded].copyFrom(now);
        recorded++;
        planIsKnown = false;
    }

    private void dropOldest() {
        State oldest = history[0];
        for (int i = 1; i < LONGEST_HISTORY; i++) {
            history[i - 1] = history[i];
        }
        history[LONGEST_HISTORY - 1] = oldest;
        recorded = LONGEST_HISTORY - 1;
    }

    /** The plan is asked for order by order, so it is searched once between two changes. */
    private void knowPlan() {
        if (planIsKnown) {
            return;
        }
        plan.prepare(now.nodes, now.paths, now.searchers);
        plan.forget();
        plan.enter(plan.numberOf(now.at, belief()), TurnSearch.START);
        plan.search();
        planIsKnown = true;
    }

    private int turnsFromBestStart(int searchers) {
        bestStart.prepare(now.nodes, now.paths, searchers);
        bestStart.forget();
        bestStart.enterAllStarts();
        bestStart.search();
        return bestStart.turns();
    }

    /** The edge whose text begins here, as ways in both directions; 0 if there is none. */
    private long edgeAt(int start) {
        if (start + EDGE_LENGTH > textLength) {
            return 0;
        }
        int a = text[start] - '0';
        int b = text[start + 2] - '0';
        if (!isNode(a) || !isNode(b) || a == b || text[start + 1] != '-' || text[start + 3] != ';') {
            return 0;
        }
        return Ways.edge(a, b);
    }

    private long textEdges() {
        long edges = 0;
        for (int start = 0; start < textLength; start += EDGE_LENGTH) {
            edges |= edgeAt(start);
        }
        return edges;
    }

    /**
     * Ways are a set of pairs (from, to) of nodes in one number, six bits for each node from which
     * one goes: an edge, staying, what searchers leave open and what they close are all such sets.
     */
    private static final class Ways {
        private static final long ROW = (1L << MOST_NODES) - 1;
        private static final long ALL_TO_0 = 1L + (1L << 6) + (1L << 12) + (1L << 18) + (1L << 24) + (1L << 30);

        private Ways() {
        }

        static boolean contains(int set, int node) {
            return (set >> node & 1) == 1;
        }

        static long way(int from, int to) {
            return 1L << (MOST_NODES * from + to);
        }

        static long edge(int a, int b) {
            return way(a, b) | way(b, a);
        }

        static long stays(int nodes) {
            long ways = 0;
            for (int node = 0; node < nodes; node++) {
                ways |= way(node, node);
            }
            return ways;
        }

        /** What a searcher closes: all ways to its new node, and the way against its own. */
        static long closed(int from, int to) {
            return (ALL_TO_0 << to) | way(to, from);
        }

        /** The nodes to which one can go from this node. */
        static int from(long ways, int node) {
            return (int) (ways >>> (MOST_NODES * node) & ROW);
        }

        static long onlyFrom(long ways, int set) {
            long rows = 0;
            for (int node = 0; node < MOST_NODES; node++) {
                if (contains(set, node)) {
                    rows |= ROW << (MOST_NODES * node);
                }
            }
            return ways & rows;
        }

        /** The nodes to which any way leads: all rows laid onto one, without a loop since searches ask this most. */
        static int ends(long ways) {
            long half = ways | ways >>> (3 * MOST_NODES);
            return (int) ((half | half >>> MOST_NODES | half >>> (2 * MOST_NODES)) & ROW);
        }

        static int spread(long ways, int belief) {
            return ends(onlyFrom(ways, belief));
        }
    }

    /** Everything that undo restores. */
    private static final class State {
        int nodes;
        long paths;
        int searchers;
        final int[] at = new int[MOST_SEARCHERS];
        final int[] aim = new int[MOST_SEARCHERS];
        int turn;
        int period;
        int delay;
        final Beliefs beliefs = new Beliefs();
        final Evader evader = new Evader();

        void copyFrom(State other) {
            nodes = other.nodes;
            paths = other.paths;
            searchers = other.searchers;
            System.arraycopy(other.at, 0, at, 0, MOST_SEARCHERS);
            System.arraycopy(other.aim, 0, aim, 0, MOST_SEARCHERS);
            turn = other.turn;
            period = other.period;
            delay = other.delay;
            beliefs.copyFrom(other.beliefs);
            evader.copyFrom(other.evader);
        }

        void startAnew(int newNodes) {
            nodes = newNodes;
            paths = Ways.stays(newNodes);
            searchers = 0;
            turn = 0;
            evader.there = false;
            forgetBeliefs();
        }

        void forgetBeliefs() {
            beliefs.makeAnew(turn, ((1 << nodes) - 1) & ~occupied());
        }

        boolean joins(int from, int to) {
            return (paths & Ways.way(from, to)) != 0;
        }

        int edges() {
            return (Long.bitCount(paths) - nodes) / 2;
        }

        int occupied() {
            int set = 0;
            for (int i = 0; i < searchers; i++) {
                set |= 1 << at[i];
            }
            return set;
        }

        /** The ways on which an evader is not caught while the searchers go to these nodes. */
        long freeWays(int[] targets) {
            long ways = paths;
            for (int i = 0; i < searchers; i++) {
                ways &= ~Ways.closed(at[i], targets[i]);
            }
            return ways;
        }

        void cut(int a, int b) {
            paths &= ~Ways.edge(a, b);
            for (int i = 0; i < searchers; i++) {
                if (!joins(at[i], aim[i])) {
                    aim[i] = at[i];
                }
            }
            if (evader.there && !joins(evader.node, evader.aim)) {
                evader.aim = evader.node;
            }
        }

        void replaceEdges(long edges) {
            paths = Ways.stays(nodes) | edges;
            System.arraycopy(at, 0, aim, 0, MOST_SEARCHERS);
            evader.aim = evader.node;
            forgetBeliefs();
        }

        void addSearcher(int node) {
            at[searchers] = node;
            aim[searchers] = node;
            searchers++;
            beliefs.leaveOut(node);
            if (evader.isFree() && evader.node == node) {
                evader.catchAt(node, turn);
            }
        }

        void makeTurn() {
            long ways = freeWays(aim);
            turn++;
            beliefs.extend(ways);
            if (evader.isFree()) {
                evader.go(ways, turn);
            }
            System.arraycopy(aim, 0, at, 0, MOST_SEARCHERS);
        }

        void giveNews() {
            if (!evader.isFree() || period <= 0 || turn % period != 0 || turn < delay) {
                return;
            }
            int told = turn - delay;
            if (beliefs.keeps(told) && evader.hiddenAt <= told) {
                beliefs.narrow(told, evader.nodeAfter(told));
            }
        }
    }

    /** The latest beliefs, with the ways that led from each to the next, so that news can go over them again. */
    private static final class Beliefs {
        static final int MOST_KEPT = 8;

        private final int[] sets = new int[MOST_KEPT];
        private final long[] waysInto = new long[MOST_KEPT];
        private int last;
        int kept;

        void copyFrom(Beliefs other) {
            System.arraycopy(other.sets, 0, sets, 0, MOST_KEPT);
            System.arraycopy(other.waysInto, 0, waysInto, 0, MOST_KEPT);
            last = other.last;
            kept = other.kept;
        }

        static int slot(int turn) {
            return turn & (MOST_KEPT - 1);
        }

        void makeAnew(int turn, int set) {
            last = turn;
            kept = 1;
            sets[slot(turn)] = set;
        }

        boolean keeps(int turn) {
            return turn <= last && turn > last - kept;
        }

        int after(int turn) {
            return sets[slot(turn)];
        }

        void leaveOut(int node) {
            sets[slot(last)] &= ~(1 << node);
        }

        void extend(long ways) {
            int set = Ways.spread(ways, after(last));
            last++;
            kept = Math.min(kept + 1, MOST_KEPT);
            sets[slot(last)] = set;
            waysInto[slot(last)] = ways;
        }

        /** Takes news; what had been left out of later beliefs stays out of them. */
        void narrow(int turn, int node) {
            if (!Ways.contains(after(turn), node)) {
                return;
            }
            sets[slot(turn)] = 1 << node;
            for (int later = turn + 1; later <= last; later++) {
                sets[slot(later)] &= Ways.spread(waysInto[slot(later)], after(later - 1));
            }
        }
    }

    /** The hidden evader; nothing in it counts while it is not there. */
    private static final class Evader {
        boolean there;
        int node;
        int aim;
        private boolean caught;
        private int caughtAt;
        int hiddenAt;
        private final int[] trail = new int[Beliefs.MOST_KEPT];

        void copyFrom(Evader other) {
            there = other.there;
            node = other.node;
            aim = other.aim;
            caught = other.caught;
            caughtAt = other.caughtAt;
            hiddenAt = other.hiddenAt;
            System.arraycopy(other.trail, 0, trail, 0, Beliefs.MOST_KEPT);
        }

        void hideAt(int newNode, int turn) {
            there = true;
            caught = false;
            caughtAt = 0;
            hiddenAt = turn;
            standAt(newNode, turn);
        }

        boolean isFree() {
            return there && !caught;
        }

        void catchAt(int newNode, int turn) {
            caught = true;
            caughtAt = turn;
            standAt(newNode, turn);
        }

        void go(long ways, int turn) {
            if ((ways & Ways.way(node, aim)) == 0) {
                catchAt(aim, turn);
            } else {
                standAt(aim, turn);
            }
        }

        private void standAt(int newNode, int turn) {
            node = newNode;
            aim = newNode;
            trail[Beliefs.slot(turn)] = newNode;
        }

        int nodeAfter(int turn) {
            return trail[Beliefs.slot(turn)];
        }

        int property(int what) {
            switch (what) {
                case 0:
                    return node;
                case 1:
                    return aim;
                case 2:
                    return caught ? 1 : 0;
                case 3:
                    return caughtAt;
                default:
                    return hiddenAt;
            }
        }
    }

    /**
     * What searchers can bring about, turn by turn. A situation is one number: the nodes of the
     * searchers, searcher 0 weighing most, and then the belief.
     */
    private abstract static class Search {
        static final int BELIEFS = 1 << MOST_NODES;
        static final int SITUATIONS = MOST_NODES * MOST_NODES * MOST_NODES * BELIEFS;
        static final int NONE = -1;

        int nodes;
        private long paths;
        int searchers;
        final int[] at = new int[MOST_SEARCHERS];

        /** Is told each situation to which a turn can lead, by rising orders of searcher 0, then 1, then 2. */
        abstract void arrive(int situation, int moves);

        final void prepare(int newNodes, long newPaths, int newSearchers) {
            nodes = newNodes;
            paths = newPaths;
            searchers = newSearchers;
        }

        /** All numbers of situations are below this. */
        final int bound() {
            int bound = BELIEFS;
            for (int i = 0; i < searchers; i++) {
                bound *= MOST_NODES;
            }
            return bound;
        }

        final int numberOf(int[] places, int set) {
            int number = 0;
            for (int i = 0; i < searchers; i++) {
                number = number * MOST_NODES + places[i];
            }
            return number * BELIEFS + set;
        }

        /** Clears what this search can use and no more: with few searchers that is little. */
        final void clear(int[] row) {
            int bound = bound();
            for (int situation = 0; situation < bound; situation++) {
                row[situation] = NONE;
            }
        }

        final void placeSearchers(int situation) {
            int rest = situation / BELIEFS;
            for (int i = searchers - 1; i >= 0; i--) {
                at[i] = rest % MOST_NODES;
                rest /= MOST_NODES;
            }
        }

        final void expand(int situation) {
            placeSearchers(situation);
            giveOrders(0, Ways.onlyFrom(paths, situation % BELIEFS), 0, 0);
        }

        /** Gives every order to this searcher and, at most three deep, to those behind it; the ways are the evader's. */
        private void giveOrders(int searcher, long ways, int reached, int moves) {
            if (searcher >= searchers || searcher >= MOST_SEARCHERS) {
                arrive(reached * BELIEFS + Ways.ends(ways), moves);
                return;
            }
            int from = at[searcher];
            int targets = Ways.from(paths, from);
            for (int to = 0; to < nodes; to++) {
                if (Ways.contains(targets, to)) {
                    long open = ways & ~Ways.closed(from, to);
                    giveOrders(searcher + 1, open, reached * MOST_NODES + to, to == from ? moves : moves + 1);
                }
            }
        }
    }

    /**
     * Finds the quickest plan. Situations are entered turn by turn, and within a turn in the order
     * in which the document prefers plans, so the first one with an empty belief ends the plan.
     */
    private static final class TurnSearch extends Search {
        static final int START = -2;

        private final int[] cameFrom = new int[SITUATIONS];
        private final int[] queue = new int[SITUATIONS];
        private int entered;
        private int here;
        private int end;

        void forget() {
            clear(cameFrom);
            entered = 0;
            end = NONE;
        }

        void enter(int situation, int before) {
            if (end != NONE || cameFrom[situation] != NONE || entered >= SITUATIONS) {
                return;
            }
            cameFrom[situation] = before;
            queue[entered] = situation;
            entered++;
            if (situation % BELIEFS == 0) {
                end = situation;
            }
        }

        void enterAllStarts() {
            int bound = bound();
            for (int places = 0; places < bound; places += BELIEFS) {
                placeSearchers(places);
                enterStart(places);
            }
        }

        private void enterStart(int places) {
            int free = (1 << nodes) - 1;
            for (int i = 0; i < searchers; i++) {
                if (at[i] >= nodes) {
                    return;
                }
                free &= ~(1 << at[i]);
            }
            enter(places + free, START);
        }

        void search() {
            for (int next = 0; next < entered && next < SITUATIONS && end == NONE; next++) {
                here = queue[next];
                expand(here);
            }
        }

        void arrive(int situation, int moves) {
            enter(situation, here);
        }

        int turns() {
            if (end == NONE) {
                return NOT_FOUND;
            }
            int turns = 0;
            int situation = end;
            while (turns < SITUATIONS && cameFrom[situation] != START) {
                situation = cameFrom[situation];
                turns++;
            }
            return turns;
        }

        /** Where the plan has this searcher after so many turns, which are at most all of its turns. */
        int nodeAfter(int turns, int searcher) {
            int situation = end;
            for (int left = turns() - turns; left > 0; left--) {
                situation = cameFrom[situation];
            }
            placeSearchers(situation);
            return at[searcher];
        }
    }

    /** Finds the least number of moves, by looking at the situations in the order of their price in moves. */
    private static final class MoveSearch extends Search {
        private static final int HIGHEST_PRICE = MOST_SEARCHERS * SITUATIONS;

        private final int[] prices = new int[SITUATIONS];
        private int price;
        private int highest;

        int fewestMoves(int start) {
            clear(prices);
            prices[start] = 0;
            highest = 0;
            for (int next = 0; next <= highest && next <= HIGHEST_PRICE; next++) {
                price = next;
                if (expandAllAtPrice()) {
                    return price;
                }
            }
            return NOT_FOUND;
        }

        private boolean expandAllAtPrice() {
            int bound = bound();
            for (int situation = 0; situation < bound; situation++) {
                if (prices[situation] == price) {
                    if (situation % BELIEFS == 0) {
                        return true;
                    }
                    expand(situation);
                }
            }
            return false;
        }

        void arrive(int situation, int moves) {
            // A turn in which all stay only makes the belief larger: no cheapest plan needs it.
            if (moves == 0) {
                return;
            }
            int known = prices[situation];
            if (known == NONE || known > price + moves) {
                prices[situation] = price + moves;
                highest = Math.max(highest, price + moves);
            }
        }
    }
}
