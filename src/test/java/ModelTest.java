import java.lang.reflect.Method;
import java.util.ArrayList;
import java.util.Arrays;
import java.util.List;
import java.util.Random;

/** Runs of drawn calls: the class must answer as the slow model does, call by call. */
public final class ModelTest {
    private static final int RUNS = 600, STEPS = 320;
    private static final String[] LAWS = {
        "w>10?w*h/m+p;h+k", "w*h/m+k", "s*3+w/2-h", "h=0?w/4+k;w*h/m+k", "(w+k)*!h+h*3", "p%2?w;k|h", "-w+20-h*2",
        "w&k;h", "!w?0;w<5?1;w<10|k>3?h+2;9", "9999*9999*9999", "w/(h-1)+w%(m-2)", "99-w", "w=20&h>1", "m*p-s",
        "(((((((w", "w<h<k", "w?h?k", "12345", "w;", "", "w+*h", "--!-(w)", "!!!!!!!w", "(-(!(-w)))",
    };
    private static final String SIGNS = "whmksp0123456789+-*/%<=>|&!()?;x ";

    private final Random random;
    private final PaneAcross quick = new PaneAcross();
    private final SlowPane slow = new SlowPane();
    private final List<String> told = new ArrayList<>();
    private final int far;
    private final boolean hasLaws;

    private ModelTest(long seed) {
        random = new Random(seed);
        far = random.nextInt(4) == 0 ? 12 : 1 + random.nextInt(7);
        hasLaws = random.nextInt(3) != 0;
    }

    public static void main(String[] args) throws ReflectiveOperationException {
        Due due = new Due("ModelTest");
        for (int run = 0; run < RUNS && due.wrong() == 0; run++) new ModelTest(run).runOn(due, run);
        due.end();
    }

    private void runOn(Due due, int run) throws ReflectiveOperationException {
        List<Method> methods = new ArrayList<>(Arrays.asList(PaneAcross.class.getDeclaredMethods()));
        methods.removeIf(m -> !java.lang.reflect.Modifier.isPublic(m.getModifiers()));
        methods.sort((a, b) -> a.getName().compareTo(b.getName()));
        int born = random.nextInt(10) == 0 ? 52 : random.nextInt(9);
        for (int i = 0; i < born; i++) ask(due, run, method(methods, "body"), random.nextInt(8));
        for (int i = 0; i < STEPS && due.wrong() == 0; i++) {
            int chance = random.nextInt(30);
            if (chance == 0 && hasLaws) feedText(due, run);
            else if (chance < 3 && i < 60) ask(due, run, method(methods, "place"), random.nextInt(31), people());
            else if (chance < 5) rowOfHolds(due, run, methods);
            else if (chance < 8) mendMany(due, run, methods);
            else if (chance == 8) stepManyTimes(due, run, methods);
            else if (chance == 9) walkOn(due, run, methods);
            else askAny(due, run, methods.get(random.nextInt(methods.size())));
        }
    }

    /** A windy, crowded street and a weak pane, so that walks crack now and then. */
    private void mendMany(Due due, int run, List<Method> methods) throws ReflectiveOperationException {
        int n = random.nextInt(12) == 0 ? 45 : 1 + random.nextInt(4);
        int[] mosts = {30, 12, 20, 20, 4, 5, 3, 6, 150, 6, 999};
        for (int i = 0; i < n; i++) {
            int what = random.nextInt(11);
            int v = Math.max(what == 2 || what == 7 ? 1 : 0, random.nextInt(mosts[what] + 1));
            ask(due, run, method(methods, "mend"), what > 6 ? 0 : random.nextInt(far), what, v);
        }
        askNumbers(due, run);
    }

    private void stepManyTimes(Due due, int run, List<Method> methods) throws ReflectiveOperationException {
        int n = random.nextInt(random.nextInt(3) == 0 ? 45 : 6), m = random.nextInt(n + 2);
        for (int i = 0; i < n; i++) ask(due, run, method(methods, "undo"));
        askNumbers(due, run);
        for (int i = 0; i < m; i++) ask(due, run, method(methods, "redo"));
        askNumbers(due, run);
    }

    private void walkOn(Due due, int run, List<Method> methods) throws ReflectiveOperationException {
        int n = 1 + random.nextInt(20);
        ask(due, run, method(methods, "out"), random.nextInt(60), random.nextInt(4));
        for (int i = 0; i < n; i++) {
            String name = random.nextInt(3) == 0 ? "rest" : "pace";
            ask(due, run, method(methods, name), random.nextInt(random.nextInt(3) == 0 ? 4 : 2));
            for (int what = 0; what < 7; what++) ask(due, run, method(methods, "led"), what);
        }
    }

    private static Method method(List<Method> methods, String name) {
        return methods.stream().filter(m -> m.getName().equals(name)).findFirst().get();
    }

    private int people() {
        return random.nextInt(3) == 0 ? random.nextInt(13) : random.nextInt(3);
    }

    private void feedText(Due due, int run) throws ReflectiveOperationException {
        StringBuilder text = new StringBuilder(LAWS[random.nextInt(LAWS.length)]);
        if (random.nextInt(3) == 0) {
            int at = random.nextInt(text.length() + 1);
            text.insert(at, SIGNS.charAt(random.nextInt(SIGNS.length())));
        }
        if (random.nextInt(4) == 0) text = new StringBuilder(drawnText());
        Method feed = PaneAcross.class.getMethod("feed", int.class);
        for (int i = 0; i < text.length(); i++) ask(due, run, feed, text.charAt(i));
        ask(due, run, PaneAcross.class.getMethod("law"));
    }

    private String drawnText() {
        StringBuilder text = new StringBuilder();
        int length = random.nextInt(30);
        for (int i = 0; i < length; i++) text.append(SIGNS.charAt(random.nextInt(SIGNS.length())));
        return text.toString();
    }

    private void rowOfHolds(Due due, int run, List<Method> methods) throws ReflectiveOperationException {
        int shelf = random.nextInt(6), n = random.nextInt(6);
        ask(due, run, method(methods, "row"), shelf, 0, n);
        for (int i = 0; i < n; i++) {
            int v = random.nextInt(3) == 0 ? random.nextInt(50) : random.nextInt(4);
            ask(due, run, method(methods, "put"), shelf, i, v);
        }
        // What was truly so must often be seen, too.
        if (quick.count(0) > 0 && random.nextBoolean()) {
            int all = 0, h = random.nextInt(4), minute = random.nextInt(60);
            for (int i = 0; i < n && i < quick.count(0); i++) {
                all += quick.strain(10 * i + h, minute + i);
                ask(due, run, method(methods, "put"), shelf, i, Math.min(all, random.nextInt(9) == 0 ? 127 : 120));
            }
            ask(due, run, method(methods, "begun"), shelf, h);
            ask(due, run, method(methods, "judge"), shelf, 10 * minute + h);
        }
    }

    private void askAny(Due due, int run, Method method) throws ReflectiveOperationException {
        String name = method.getName();
        if (name.equals("feed") && random.nextInt(4) != 0) return;
        if (name.equals("place") && quick.count(0) >= far && random.nextInt(40) != 0) return;
        if (name.equals("places") && quick.count(0) + 2 >= far && far != 12) return;
        long[] args = new long[method.getParameterCount()];
        for (int i = 0; i < args.length; i++) args[i] = drawnArgument(name, i);
        if (name.equals("mend")) {
            if (args[1] >= 7 && random.nextInt(5) != 0) args[0] = 0;
            if (args[1] == 8) args[2] = random.nextInt(random.nextBoolean() ? 1001 : 150);
            else if (args[1] == 9) args[2] = random.nextInt(random.nextInt(5) == 0 ? 101 : 8);
            else if (args[1] == 10) args[2] = random.nextInt(1001);
        }
        if (name.equals("places")) fillThrees((int) args[0]);
        ask(due, run, method, args);
        if (name.equals("act")) for (int i = 0; i < 26; i++) ask(due, run, PaneAcross.class.getMethod("trace", int.class), i);
        if (name.equals("mend") || name.equals("undo") || name.equals("redo")) askNumbers(due, run);
    }

    private void fillThrees(int shelf) {
        if (random.nextBoolean()) return;
        int n = random.nextInt(20);
        quick.row(shelf, 0, n);
        slow.row(shelf, 0, n);
        for (int i = 0; i < n; i++) {
            int v = random.nextInt(12) == 0 ? random.nextInt(256) : random.nextInt(i % 3 == 0 ? 31 : 10);
            quick.put(shelf, i, v);
            slow.put(shelf, i, v);
        }
    }

    private void askNumbers(Due due, int run) throws ReflectiveOperationException {
        Method of = PaneAcross.class.getMethod("of", int.class, int.class);
        for (int number = 0; number < quick.count(0); number++) {
            for (int what = 0; what < 7; what++) ask(due, run, of, number, what);
        }
        for (int what = 7; what < 11; what++) ask(due, run, of, 0, what);
    }

    private long drawnArgument(String name, int i) {
        if (random.nextInt(60) == 0) return wild();
        boolean isShelf = i == 0 && " places walk start menFor van windFrom scratchFor cost begun judge keep row put element shift taken ".contains(" " + name + " ") || name.equals("shift") && i == 2;
        if (isShelf) return random.nextInt(30) == 0 ? 6 : random.nextInt(random.nextBoolean() ? 2 : 6);
        switch (name + i) {
            case "place0": return random.nextInt(32);
            case "place1": return people();
            case "places1": return random.nextInt(3) == 0 ? random.nextInt(24) - 4 : 0;
            case "places2": return random.nextInt(14);
            case "mend0": case "of0": case "wind0": return random.nextInt(far + 1);
            case "mend1": case "of1": return random.nextInt(12);
            case "mend2": return random.nextInt(random.nextInt(3) == 0 ? 62 : 8);
            case "wind1": case "strain1": return random.nextInt(random.nextInt(8) == 0 ? 10001 : 60);
            case "feed0": return random.nextInt(257);
            case "strain0": return 10 * random.nextInt(far + 1) + random.nextInt(random.nextInt(9) == 0 ? 10 : 4);
            case "walk1": case "menFor1": case "van1": case "windFrom1": case "scratchFor1": case "cost1":
            case "hold0": case "soonest0": case "safest0": case "out0":
                return random.nextInt(random.nextInt(8) == 0 ? 1001 : 60);
            case "safest1": return random.nextInt(62);
            case "earlier0": return random.nextInt(random.nextInt(9) == 0 ? 14 : 4);
            case "judge1": return 10 * random.nextInt(random.nextInt(8) == 0 ? 1001 : 60) + random.nextInt(5);
            case "drawn0": return random.nextInt();
            case "drawn1": return 10 * (1 + random.nextInt(31)) + random.nextInt(random.nextInt(9) == 0 ? 5 : 4);
            case "pace0": case "rest0": case "begun1": case "out1": return random.nextInt(5);
            case "led0": return random.nextInt(8);
            case "body0": return random.nextInt(9);
            case "act0": return random.nextInt(random.nextInt(9) == 0 ? 52 : 8) - 1;
            case "keep1": return random.nextInt(4) - 1;
            case "act1": return random.nextInt(random.nextInt(9) == 0 ? 5 : 4);
            case "act2": return random.nextBoolean() ? random.nextInt() : random.nextInt(20);
            case "row1": return random.nextInt(random.nextInt(3) == 0 ? 6 : 1);
            case "row2": return random.nextInt(9) == 0 ? random.nextInt(70) - 5 : random.nextInt(13);
            case "hold1": case "walk2": return random.nextInt(random.nextInt(9) == 0 ? 4 : 3);
            case "free0": case "earlier1": case "cost2": case "start1": case "drawn2":
                return random.nextInt(random.nextInt(9) == 0 ? 3 : 2);
            case "put1": case "element1": return random.nextInt(14) - 1;
            case "put2": return random.nextInt(3) == 0 ? random.nextLong() : random.nextInt(5);
            case "shift1": case "shift3": case "shift4": return random.nextInt(9) == 0 ? random.nextInt(64) - 2 : random.nextInt(5);
            case "taken1": return random.nextInt(9);
            case "count0": return random.nextInt(6);
            default: return random.nextInt(4);
        }
    }

    private long wild() {
        long[] wilds = {-1, -2, Integer.MIN_VALUE, Integer.MAX_VALUE, Integer.MAX_VALUE - 1, -10, 1000, 10000, 12, 61, 13};
        return wilds[random.nextInt(wilds.length)];
    }

    private void ask(Due due, int run, Method method, long... args) throws ReflectiveOperationException {
        Object[] given = new Object[args.length];
        Class<?>[] types = method.getParameterTypes();
        for (int i = 0; i < args.length; i++) {
            if (types[i] == long.class) given[i] = args[i];
            else given[i] = (int) args[i];
        }
        String call = method.getName() + Arrays.toString(given);
        told.add(call);
        long got = ((Number) method.invoke(quick, given)).longValue();
        long want = ((Number) SlowPane.class.getMethod(method.getName(), types).invoke(slow, given)).longValue();
        int before = due.wrong();
        due.is("run " + run + " call " + told.size() + ": " + call, got, want);
        if (due.wrong() != before) System.out.println("the run: " + told);
    }
}
