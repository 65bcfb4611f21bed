import java.lang.management.ManagementFactory;
import java.lang.reflect.Array;
import java.lang.reflect.Field;
import java.lang.reflect.Modifier;

/** All calls of one run share one room that nothing leaves: the object is small, and no call makes another. */
public final class RoomTest {
    private static final Check check = new Check();
    private static long objects = 0;
    private static long elements = 0;

    public static void main(String[] args) throws IllegalAccessException {
        measure(new PursuitDesk());
        check.holds("few objects: " + objects, objects < 200);
        check.holds("few fields and elements: " + elements, elements < 100000);
        callsMakeNothing();
        check.end();
    }

    private static void measure(Object object) throws IllegalAccessException {
        objects++;
        if (object.getClass().isArray()) {
            elements += Array.getLength(object);
            if (object instanceof Object[] all) {
                for (Object one : all) {
                    measure(one);
                }
            }
            return;
        }
        for (Class<?> type = object.getClass(); type != Object.class; type = type.getSuperclass()) {
            for (Field field : type.getDeclaredFields()) {
                if (!Modifier.isStatic(field.getModifiers())) {
                    elements++;
                    field.setAccessible(true);
                    if (!field.getType().isPrimitive()) {
                        measure(field.get(object));
                    }
                }
            }
        }
    }

    private static void callsMakeNothing() {
        if (!(ManagementFactory.getThreadMXBean() instanceof com.sun.management.ThreadMXBean bean)
            || !bean.isThreadAllocatedMemorySupported()) {
            System.out.println("this machine does not tell what calls make");
            return;
        }
        allCalls(new PursuitDesk());
        PursuitDesk desk = new PursuitDesk();
        long before = bean.getThreadAllocatedBytes(Thread.currentThread().getId());
        for (int i = 0; i < 20; i++) {
            allCalls(desk);
        }
        long made = bean.getThreadAllocatedBytes(Thread.currentThread().getId()) - before;
        check.holds("calls make nothing: " + made + " bytes", made < 4096);
    }

    private static void allCalls(PursuitDesk desk) {
        desk.reset(6);
        for (int node = 1; node < 6; node++) {
            desk.link(node - 1, node, 1);
        }
        desk.put(0);
        desk.put(5);
        desk.put(3);
        desk.setNews(1, 1);
        desk.hide(2);
        desk.flee(1);
        desk.order(0, 1);
        desk.turn();
        desk.release();
        desk.tell(1, 2);
        desk.beliefAfter(1);
        desk.ahead();
        desk.planTurns();
        desk.planOrder(0, 0);
        desk.planMoves();
        desk.settles();
        desk.leastSearchers();
        desk.bestTurns(3);
        desk.clearText();
        desk.type('0');
        desk.fault();
        desk.lay();
        desk.leave();
        desk.count(1);
        desk.neighbours(0);
        desk.searcher(0, 1);
        desk.evader(0);
        desk.undo();
    }
}
