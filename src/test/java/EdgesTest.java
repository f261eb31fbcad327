import java.lang.reflect.Method;
import java.util.HashMap;
import java.util.Map;

/**
 * Every method with every edge that the document names, and the least and greatest int and long, in all combinations:
 * planners with few items against the naive one, a full planner for answers that lie in range at all.
 */
public final class EdgesTest extends Due {
    private static final int[] EDGES = {LOW, LOW + 1, -100000, -13, -7, -6, -3, -2, -1, 0, 1, 2, 3, 4, 5, 6, 7, 8, 9, 11, 12, 13,
        14, 15, 16, 17, 31, 32, 33, 998, 999, 1000, 1001, 2047, 2048, 4095, 4096, 4097, 9998, 9999, 10000, 11999, 12000, 12001,
        1 << 16, 1 << 30, HIGH - 1, HIGH};
    /** What a pair of planners is asked before a fresh one comes: an object is used for at most 512 calls. */
    private static final int MOST_ASKED = 400;
    private static final String[] CHANGING = {"add", "remove", "set", "conflict", "need", "rule"};
    private static final String[] LOOKING = {"item", "choice", "weightIn", "best", "bestWith", "leastCapacity", "headroom",
        "greedy", "forced", "frontier", "improve", "list", "dominator", "threshold", "plain", "recovered", "adversary", "count"};

    private static final Map<String, Method> OF_CLASS = new HashMap<>();
    private static final Map<String, Method> OF_NAIVE = new HashMap<>();

    private final int kind;
    private RobustPacking x;
    private Naive y;
    private int asked = MOST_ASKED;

    private EdgesTest(int kind) {
        this.kind = kind;
    }

    /** Four kinds: nothing, one item, four items with conditions, and the greatest numbers. */
    private void begin() {
        x = new RobustPacking();
        y = new Naive();
        asked = 0;
        int[][] items = {{}, {5, 3, 2, 9}, {10, 5, 3, 4, 8, 4, 3, 0, 6, 3, 0, 6, 10, 9, 1, 1},
            {999, 999, 999, 999, 1, 999, 999, 999, 999, 1, 0, 0}};
        int[][] settings = {{1000, 0, 0}, {4, 1, 1}, {13, 1, 2}, {9999, 12, 12}};
        for (int i = 0; i < items[kind].length; i += 4) {
            x.add(items[kind][i], items[kind][i + 1], items[kind][i + 2], items[kind][i + 3]);
            y.add(items[kind][i], items[kind][i + 1], items[kind][i + 2], items[kind][i + 3]);
        }
        for (int setting = 0; setting < 3; setting++) {
            x.rule(setting, settings[kind][setting]);
            y.rule(setting, settings[kind][setting]);
        }
        x.conflict(0, 3);
        y.conflict(0, 3);
        x.need(1, 2);
        y.need(1, 2);
    }

    private static Method find(Class<?> type, String name) {
        Map<String, Method> known = type == Naive.class ? OF_NAIVE : OF_CLASS;
        if (known.isEmpty()) {
            for (Method method : type.getDeclaredMethods()) {
                known.put(method.getName(), method);
            }
        }
        return known.get(name);
    }

    private static int arguments(String name) {
        return find(RobustPacking.class, name).getParameterCount();
    }

    /** Calls the method of a name with as many of the arguments as it takes; a fourth one is the first again. */
    private static int ask(Object planner, String name, int... given) throws ReflectiveOperationException {
        Method method = find(planner.getClass(), name);
        Object[] arguments = new Object[method.getParameterCount()];
        for (int i = 0; i < arguments.length; i++) {
            arguments[i] = given[i % 3];
        }
        return (int) method.invoke(planner, arguments);
    }

    private void compare(String name, int a, int b, int c) throws ReflectiveOperationException {
        if (asked >= MOST_ASKED) {
            begin();
        }
        int kept = y.count(7);
        int want = ask(y, name, a, b, c);
        due("kind " + kind + ": " + name + "(" + a + ", " + b + ", " + c + ")", ask(x, name, a, b, c), want);
        asked++;
        // What has changed is compared and then undone: each combination meets the planner as it was.
        if (y.count(7) > kept) {
            for (int what = 0; what < 8; what++) {
                due("then: count(" + what + ")", x.count(what), y.count(what));
                due("then: item(0, " + what + ")", x.item(0, what), y.item(0, what));
            }
            due("then: undo()", x.undo(), y.undo());
            asked += 17;
        }
    }

    private void compareAll(String[] names) throws ReflectiveOperationException {
        for (String name : names) {
            int number = arguments(name);
            for (int a : EDGES) {
                for (int b : number > 1 ? EDGES : new int[] {0}) {
                    for (int c : number > 2 ? EDGES : new int[] {0}) {
                        compare(name, a, b, c);
                    }
                }
            }
        }
    }

    /** With twelve items the naive planner would take too long: an answer has to come, and to lie in range. */
    private static void askFull() throws ReflectiveOperationException {
        RobustPacking full = null;
        int calls = 0;
        for (String name : LOOKING) {
            for (int a : EDGES) {
                for (int b : EDGES) {
                    for (int c : new int[] {LOW, -1, 0, 1, 2, 12, 13, HIGH}) {
                        if (full == null || calls % 490 == 0) {
                            full = ruled(alike(12, 1 + calls % 999, 1 + calls % 997, calls % 1000, calls % 998), 9999, 12, 12);
                        }
                        calls++;
                        int answer = ask(full, name, a, b, c);
                        due("full: " + name + "(" + a + ", " + b + ", " + c + ") in range", answer >= NONE && answer <= 112000 ? 1 : 0, 1);
                    }
                }
            }
        }
    }

    /** Not promised beyond the 512th call, but nothing may be thrown there either. */
    private static void manyCalls(String[] names) throws ReflectiveOperationException {
        RobustPacking x = four();
        for (String name : names) {
            for (int a : EDGES) {
                for (int b : EDGES) {
                    ask(x, name, a, b, 1);
                    x.put((long) a << 32 | b);
                    x.put(a & 0x7F7F7F7F);
                }
                x.load();
                x.undo();
                x.fault();
                x.wipe();
            }
        }
    }

    public static void main(String[] args) throws ReflectiveOperationException {
        for (int kind = 0; kind < 4; kind++) {
            new EdgesTest(kind).compareAll(CHANGING);
            new EdgesTest(kind).compareAll(LOOKING);
        }
        askFull();
        manyCalls(CHANGING);
        manyCalls(LOOKING);
        end("all edges are as due");
    }
}
