/** Beginnings of runs of calls that several tests share. */
final class Runs {
    static final String PATH4 = links("01 12 23");
    static final String RING4 = links("01 12 23 30");
    static final String PATH6 = "reset(6) " + links("01 12 23 34 45");
    static final String ALL_EDGES = "0-1;0-2;0-3;0-4;0-5;1-2;1-3;1-4;1-5;2-3;2-4;2-5;3-4;3-5;4-5;";

    /** Two turns with all kinds of things in it, orders given, and a history that is full. */
    static final String BUSY = "reset(5) " + links("01 12 23 34") + "text(0-1;1-2) put(0) turn() hide(3) setNews(3,2) "
        + "order(0,1) flee(4) turn() order(0,2) flee(3) ";

    /** Three searchers, a caught evader, more turns than beliefs are kept, a full text. */
    static final String FULL = "reset(6) text(" + ALL_EDGES
        + ") lay() put(0) put(5) hide(3) put(3) turn()*9 order(0,1) order(2,4) ";

    private Runs() {
    }

    /** Calls that add edges, each of them given by two digits. */
    static String links(String edges) {
        StringBuilder calls = new StringBuilder();
        for (String edge : edges.split(" ")) {
            calls.append("link(").append(edge.charAt(0)).append(',').append(edge.charAt(1)).append(",1) ");
        }
        return calls.toString();
    }
}
