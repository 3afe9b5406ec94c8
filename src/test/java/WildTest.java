import java.lang.management.ManagementFactory;
import java.lang.reflect.InvocationTargetException;
import java.lang.reflect.Method;
import java.lang.reflect.Modifier;
import java.util.Arrays;
import java.util.Random;

/** Any arguments in any state: no call throws, the same calls answer the same, and calls make no objects. */
public final class WildTest {
    private static final long[] EDGES = {
        Long.MIN_VALUE, Long.MAX_VALUE, Integer.MIN_VALUE, Integer.MAX_VALUE, -15, -2, -1, 0, 1, 2, 3, 4, 5, 6, 7, 8, 9,
        10, 11, 12, 13, 24, 30, 31, 39, 40, 41, 49, 50, 51, 59, 60, 61, 99, 100, 119, 120, 121, 300, 303, 310, 999, 1000,
        9993, 9999, 10000,
    };

    private WildTest() {
    }

    public static void main(String[] args) throws ReflectiveOperationException {
        Due due = new Due("WildTest");
        for (int run = 0; run < 400; run++) due.is("run " + run + " again", hashOf(due, run), hashOf(due, run));
        askForRoom(due);
        due.end();
    }

    private static long hashOf(Due due, int run) throws ReflectiveOperationException {
        Method[] methods = Arrays.stream(PaneAcross.class.getDeclaredMethods())
            .filter(m -> Modifier.isPublic(m.getModifiers()))
            .sorted((a, b) -> a.getName().compareTo(b.getName())).toArray(Method[]::new);
        Random random = new Random(run);
        PaneAcross pane = new PaneAcross();
        long hash = 0;
        for (int i = 0; i < 512; i++) {
            Method method = methods[random.nextInt(methods.length)];
            Object[] given = new Object[method.getParameterCount()];
            for (int k = 0; k < given.length; k++) {
                long v = random.nextInt(3) == 0 ? random.nextInt() : EDGES[random.nextInt(EDGES.length)];
                if (random.nextInt(3) == 0) v = random.nextInt(5);
                if (method.getParameterTypes()[k] == long.class) given[k] = v;
                else given[k] = (int) v;
            }
            try {
                hash = hash * 31 + ((Number) method.invoke(pane, given)).longValue();
            } catch (InvocationTargetException e) {
                due.is(method.getName() + Arrays.toString(given) + " threw " + e.getCause(), 0, 1);
            }
        }
        return hash;
    }

    /** All calls of a run live in one room: the dearest ones are called often, and what they make is measured. */
    private static void askForRoom(Due due) {
        PaneAcross pane = new PaneAcross();
        fill(pane);
        callDearest(pane);
        com.sun.management.ThreadMXBean threads = (com.sun.management.ThreadMXBean) ManagementFactory.getThreadMXBean();
        long before = threads.getCurrentThreadAllocatedBytes();
        for (int i = 0; i < 20; i++) callDearest(pane);
        long made = threads.getCurrentThreadAllocatedBytes() - before;
        due.isTrue("calls make no objects, but made " + made + " bytes", made < 2000);
    }

    private static void fill(PaneAcross pane) {
        String law = "w>10?w*h/m+p;h+k";
        for (int i = 0; i < 12; i++) pane.place(2 * i, i % 4);
        for (int i = 0; i < law.length(); i++) pane.feed(law.charAt(i));
        pane.law();
        pane.body(7);
    }

    private static void callDearest(PaneAcross pane) {
        pane.row(0, 0, 60);
        pane.start(0, 1);
        pane.hold(3, 0);
        pane.soonest(3);
        pane.safest(3, 60);
        pane.menFor(0, 3);
        pane.van(0, 3);
        pane.windFrom(0, 3);
        pane.scratchFor(0, 3);
        pane.watch(0);
        pane.cost(0, 3, 1);
        pane.begun(0, 0);
        pane.drawn(5, 303, 1);
        pane.out(3, 0);
        pane.image();
        pane.pace(0);
        pane.back();
        pane.act(0, 3, 5);
        pane.shift(0, 0, 0, 1, 59);
        for (int i = 0; i < 120; i++) pane.feed('(');
        pane.law();
    }
}
