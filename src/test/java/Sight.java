import java.util.ArrayList;
import java.util.List;

/** All that calls show of an object, as lines "call = answer": two objects in the same state show the same. */
final class Sight {
    private static final int MORE_THAN_KEPT = 9;
    private final List<String> lines = new ArrayList<>();
    private final PursuitDesk desk;

    private Sight(PursuitDesk desk) {
        this.desk = desk;
    }

    private int see(String name, int... arguments) {
        int answer = Script.call(desk, name, arguments);
        lines.add(name + java.util.Arrays.toString(arguments) + " = " + answer);
        return answer;
    }

    /** What is to be seen at once; nothing changes by it. Without the number of states in the history. */
    static List<String> ofPresent(PursuitDesk desk) {
        Sight sight = new Sight(desk);
        sight.present();
        return sight.lines;
    }

    /** The present, then every state of the history, then the text; of the object only the text's end is left. */
    static List<String> ofHistory(PursuitDesk desk) {
        Sight sight = new Sight(desk);
        sight.present();
        for (int i = 0; i < MORE_THAN_KEPT && sight.see("undo") >= 0; i++) {
            sight.present();
        }
        sight.text();
        return sight.lines;
    }

    /** What news of every kept turn, and news by itself with every delay, would bring. */
    static List<String> ofNews(PursuitDesk desk) {
        Sight sight = new Sight(desk);
        int turn = desk.count(3);
        for (int told = Math.max(0, turn - 8); told <= turn; told++) {
            for (int node = 0; node < desk.count(0); node++) {
                if (sight.see("tell", told, node) >= 0) {
                    for (int later = told; later <= turn; later++) {
                        sight.see("beliefAfter", later);
                    }
                    desk.undo();
                }
            }
        }
        for (int delay = 0; delay <= 7; delay++) {
            desk.setNews(1, delay);
            if (sight.see("turn") >= 0) {
                desk.undo();
            }
            desk.undo();
        }
        return sight.lines;
    }

    private void present() {
        for (int what = 0; what <= 6; what++) {
            see("count", what);
        }
        for (int node = 0; node < 6; node++) {
            see("neighbours", node);
        }
        for (int searcher = 0; searcher < 3; searcher++) {
            see("searcher", searcher, 0);
            see("searcher", searcher, 1);
        }
        for (int what = 0; what <= 4; what++) {
            see("evader", what);
        }
        int turn = desk.count(3);
        for (int earlier = Math.max(0, turn - 8); earlier <= turn; earlier++) {
            see("beliefAfter", earlier);
        }
        see("belief");
        see("ahead");
        see("settles");
        see("fault");
        plan();
    }

    private void plan() {
        int turns = see("planTurns");
        for (int turn = 0; turn < Math.min(turns, 4); turn++) {
            for (int searcher = 0; searcher < desk.count(2); searcher++) {
                see("planOrder", turn, searcher);
            }
        }
        see("planMoves");
    }

    private void text() {
        desk.reset(6);
        see("fault");
        see("lay");
        for (int node = 0; node < 6; node++) {
            see("neighbours", node);
        }
        see("clearText");
    }
}
