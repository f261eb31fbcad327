import java.util.ArrayList;
import java.util.List;
import java.util.function.Supplier;

/**
 * "A call that returns an error changes nothing": of two twins one hears the refused call, and then both are
 * asked for everything, also behind each undo(). Calls that only look are tried in the same way.
 */
public final class RefusedTest extends Due {
    private interface Call {
        int on(RobustPacking x);
    }

    private record Row(String name, int code, Call call) {
    }

    // ---- the planners

    /** Four items with conditions, a text that can be loaded, ten calls in the history. */
    private static RobustPacking some() {
        RobustPacking x = four();
        x.conflict(0, 2);
        x.need(1, 3);
        x.set(1, 4, 2);
        return write(x, "12/34+5-67@2;8/9");
    }

    private static RobustPacking withFault() {
        return write(some(), ";7/0");
    }

    /** The history has gone round, and its latest calls have been undone. */
    private static RobustPacking undone() {
        RobustPacking x = some();
        for (int i = 0; i < 9; i++) {
            x.rule(i % 3, 10 + i % 3);
            x.set(i % 4, 4, i % 4);
        }
        for (int i = 0; i < 5; i++) {
            x.undo();
        }
        return x;
    }

    private static RobustPacking eleven() {
        RobustPacking x = new RobustPacking();
        for (int i = 0; i < 11; i++) {
            x.add(20 + 7 * i % 11, 10 + 5 * i % 11, 3 * i % 7, 5 * i % 9);
        }
        x.conflict(10, 0);
        x.need(3, 10);
        ruled(x, 100, 3, 2);
        return write(x, "5/6+7-8@1;9/9");
    }

    /** Twelve items, twelve calls in the history, 80 characters on the pad. */
    private static RobustPacking full() {
        RobustPacking x = eleven();
        x.add(999, 999, 999, 999);
        x.set(11, 4, 3);
        return write(x, ";999/999+999-999@3".repeat(3) + ";1/11+123-567");
    }

    // ---- what is asked for

    private static void look(RobustPacking x, List<Integer> seen) {
        int size = x.count(0);
        int all = (1 << size) - 1;
        for (int what = 0; what < 9; what++) {
            seen.add(x.count(what));
            seen.add(x.best(what));
            seen.add(x.choice(all, what));
            seen.add(x.choice(all / 2, what));
            for (int item = 0; item < size; item++) {
                seen.add(x.item(item, what));
            }
        }
        for (int what = 0; what < 2; what++) {
            seen.add(x.greedy(what));
            seen.add(x.forced(all & 2, all & 1, what));
            seen.add(x.frontier(3, what));
            seen.add(x.improve(0, what));
            seen.add(x.adversary(all & 7, 1, what));
            seen.add(x.plain(what));
            seen.add(x.headroom(what));
        }
        seen.add(x.frontier(-1, 0));
        seen.add(x.list(size, -1));
        seen.add(x.dominator(size, all & 8));
        seen.add(x.threshold(-1));
        seen.add(x.threshold(0));
        seen.add(x.recovered(all & 7, 0, 1));
        seen.add(x.leastCapacity(20));
        seen.add(x.fault());
    }

    /** All that a planner holds behind some calls of undo(), and at last what is on its pad. */
    private static List<Integer> everything(Supplier<RobustPacking> planner, Call call) {
        List<Integer> seen = new ArrayList<>();
        for (int depth = 0; depth <= 13; depth++) {
            RobustPacking x = planner.get();
            call.on(x);
            for (int i = 0; i < depth; i++) {
                seen.add(x.undo());
            }
            look(x, seen);
        }
        RobustPacking x = planner.get();
        call.on(x);
        for (int i = x.count(0); i > 0; i--) {
            x.remove(0);
        }
        seen.add(x.load());
        look(x, seen);
        return seen;
    }

    private static void tryAll(String name, Supplier<RobustPacking> planner, List<Row> rows) {
        List<Integer> untouched = everything(planner, x -> 0);
        for (Row row : rows) {
            due(name + ": " + row.name, row.call.on(planner.get()), row.code);
            List<Integer> touched = everything(planner, row.call);
            due(name + ": behind " + row.name + ", questions", touched.size(), untouched.size());
            for (int i = 0; i < Math.min(touched.size(), untouched.size()); i++) {
                due(name + ": behind " + row.name + ", question " + i, touched.get(i), untouched.get(i));
            }
        }
    }

    // ---- the calls

    /** Calls that every planner refuses, most of them for two reasons: the first one that is named is returned. */
    private static List<Row> alwaysRefused() {
        List<Row> rows = new ArrayList<>();
        rows.add(new Row("add(0, 1, 0, 0)", BAD_VALUE, x -> x.add(0, 1, 0, 0)));
        rows.add(new Row("add(1, 1, 0, 1000)", BAD_VALUE, x -> x.add(1, 1, 0, 1000)));
        rows.add(new Row("remove(-1)", NO_SUCH, x -> x.remove(-1)));
        rows.add(new Row("remove(12)", NO_SUCH, x -> x.remove(12)));
        rows.add(new Row("set(12, 9, 1000)", NO_SUCH, x -> x.set(12, 9, 1000)));
        rows.add(new Row("item(12, 9)", NO_SUCH, x -> x.item(12, 9)));
        rows.add(new Row("conflict(12, 12)", NO_SUCH, x -> x.conflict(12, 12)));
        rows.add(new Row("need(-1, -1)", NO_SUCH, x -> x.need(-1, -1)));
        rows.add(new Row("need(0, 12)", NO_SUCH, x -> x.need(0, 12)));
        rows.add(new Row("rule(0, 10000)", BAD_VALUE, x -> x.rule(0, 10000)));
        rows.add(new Row("rule(1, 13)", BAD_VALUE, x -> x.rule(1, 13)));
        rows.add(new Row("rule(3, 0)", BAD_VALUE, x -> x.rule(3, 0)));
        rows.add(new Row("put(0)", BAD_VALUE, x -> x.put(0)));
        rows.add(new Row("put(49 and 32)", BAD_VALUE, x -> x.put(49 << 8 | 32)));
        rows.add(new Row("choice(4096, 9)", NO_SUCH, x -> x.choice(4096, 9)));
        rows.add(new Row("choice(0, 9)", BAD_VALUE, x -> x.choice(0, 9)));
        rows.add(new Row("weightIn(0, 8191)", NO_SUCH, x -> x.weightIn(0, 8191)));
        rows.add(new Row("best(7)", BAD_VALUE, x -> x.best(7)));
        rows.add(new Row("bestWith(10000, 0, 0)", BAD_VALUE, x -> x.bestWith(10000, 0, 0)));
        rows.add(new Row("bestWith(0, 0, 13)", BAD_VALUE, x -> x.bestWith(0, 0, 13)));
        rows.add(new Row("leastCapacity(12001)", BAD_VALUE, x -> x.leastCapacity(12001)));
        rows.add(new Row("headroom(12)", NO_SUCH, x -> x.headroom(12)));
        rows.add(new Row("greedy(2)", BAD_VALUE, x -> x.greedy(2)));
        rows.add(new Row("forced(4096, 4096, 2)", NO_SUCH, x -> x.forced(4096, 4096, 2)));
        rows.add(new Row("forced(0, 0, 2)", BAD_VALUE, x -> x.forced(0, 0, 2)));
        rows.add(new Row("frontier(99, 3)", BAD_VALUE, x -> x.frontier(99, 3)));
        rows.add(new Row("improve(-1, 2)", NO_SUCH, x -> x.improve(-1, 2)));
        rows.add(new Row("improve(0, 2)", BAD_VALUE, x -> x.improve(0, 2)));
        rows.add(new Row("list(13, 99)", NO_SUCH, x -> x.list(13, 99)));
        rows.add(new Row("dominator(0, 1)", NO_SUCH, x -> x.dominator(0, 1)));
        rows.add(new Row("plain(13)", NO_SUCH, x -> x.plain(13)));
        rows.add(new Row("recovered(0, 8191, 13)", NO_SUCH, x -> x.recovered(0, 8191, 13)));
        rows.add(new Row("recovered(0, 0, 13)", BAD_VALUE, x -> x.recovered(0, 0, 13)));
        rows.add(new Row("adversary(-1, 13, 2)", NO_SUCH, x -> x.adversary(-1, 13, 2)));
        rows.add(new Row("adversary(0, 0, 2)", BAD_VALUE, x -> x.adversary(0, 0, 2)));
        rows.add(new Row("count(8)", BAD_VALUE, x -> x.count(8)));
        return rows;
    }

    /** Calls that a planner with at least four items, not much room and a G below 4 refuses. */
    private static List<Row> refusedWithItems() {
        List<Row> rows = new ArrayList<>();
        rows.add(new Row("set(0, 5, 1)", BAD_VALUE, x -> x.set(0, 5, 1)));
        rows.add(new Row("set(3, 0, 0)", BAD_VALUE, x -> x.set(3, 0, 0)));
        rows.add(new Row("set(3, 2, 1000)", BAD_VALUE, x -> x.set(3, 2, 1000)));
        rows.add(new Row("set(3, 4, 4)", BAD_VALUE, x -> x.set(3, 4, 4)));
        rows.add(new Row("item(3, 8)", BAD_VALUE, x -> x.item(3, 8)));
        rows.add(new Row("conflict(3, 3)", BAD_VALUE, x -> x.conflict(3, 3)));
        rows.add(new Row("need(3, 3)", BAD_VALUE, x -> x.need(3, 3)));
        rows.add(new Row("conflict(3, 12)", NO_SUCH, x -> x.conflict(3, 12)));
        rows.add(new Row("forced(9, 8, 2)", BAD_VALUE, x -> x.forced(9, 8, 2)));
        rows.add(new Row("forced(9, 8, 0)", NOT_POSSIBLE, x -> x.forced(9, 8, 0)));
        rows.add(new Row("weightIn(3, 15)", NOT_POSSIBLE, x -> x.weightIn(3, 15)));
        rows.add(new Row("recovered(3, 15, 13)", BAD_VALUE, x -> x.recovered(3, 15, 13)));
        rows.add(new Row("recovered(3, 15, 0)", NOT_POSSIBLE, x -> x.recovered(3, 15, 0)));
        rows.add(new Row("dominator(3, 15)", NO_SUCH, x -> x.dominator(3, 15)));
        return rows;
    }

    private static List<Row> refusedBySome() {
        List<Row> rows = refusedWithItems();
        rows.add(new Row("dominator(4, 15)", NOT_POSSIBLE, x -> x.dominator(4, 15)));
        rows.add(new Row("improve(12, 0), too heavy", NOT_POSSIBLE, x -> x.improve(12, 0)));
        rows.add(new Row("improve(2, 1), not allowed", NOT_POSSIBLE, x -> x.improve(2, 1)));
        return rows;
    }

    private static List<Row> refusedByFull() {
        List<Row> rows = refusedWithItems();
        rows.add(new Row("a 13th item", TOO_MANY, x -> x.add(1, 1, 0, 0)));
        rows.add(new Row("an 81st character", TOO_MANY, x -> x.put(49)));
        rows.add(new Row("eight characters more", TOO_MANY, x -> x.put(0x3132333435363738L)));
        rows.add(new Row("load()", TOO_MANY, RobustPacking::load));
        rows.add(new Row("improve(4095, 0)", NOT_POSSIBLE, x -> x.improve(4095, 0)));
        rows.add(new Row("dominator(12, 4095)", NOT_POSSIBLE, x -> x.dominator(12, 4095)));
        return rows;
    }

    /** Calls without an error that only look, with their answers for some(). */
    private static List<Row> onlyLooking() {
        List<Row> rows = new ArrayList<>();
        rows.add(new Row("fault()", NONE, RobustPacking::fault));
        rows.add(new Row("bestWith(9999, 12, 12)", 100023, x -> x.bestWith(9999, 12, 12)));
        rows.add(new Row("bestWith(0, 0, 0)", 100000, x -> x.bestWith(0, 0, 0)));
        rows.add(new Row("headroom(0)", 998 - 2, x -> x.headroom(0)));
        rows.add(new Row("headroom(3)", 2, x -> x.headroom(3)));
        rows.add(new Row("best(0)", 8, x -> x.best(0)));
        rows.add(new Row("leastCapacity(12000)", NONE, x -> x.leastCapacity(12000)));
        rows.add(new Row("greedy(0)", 4, x -> x.greedy(0)));
        rows.add(new Row("forced(2, 0, 0)", NONE, x -> x.forced(2, 0, 0)));
        rows.add(new Row("frontier(-2, 0)", NONE, x -> x.frontier(-2, 0)));
        rows.add(new Row("improve(0, 1)", 1, x -> x.improve(0, 1)));
        rows.add(new Row("list(4, 99)", NONE, x -> x.list(4, 99)));
        rows.add(new Row("dominator(2, 1)", NONE, x -> x.dominator(2, 1)));
        rows.add(new Row("threshold(99)", NONE, x -> x.threshold(99)));
        rows.add(new Row("plain(1)", 10, x -> x.plain(1)));
        rows.add(new Row("recovered(15, 1, 3)", 16, x -> x.recovered(15, 1, 3)));
        rows.add(new Row("adversary(15, 0, 0)", NONE, x -> x.adversary(15, 0, 0)));
        rows.add(new Row("weightIn(15, 1)", 24, x -> x.weightIn(15, 1)));
        return rows;
    }

    public static void main(String[] args) {
        tryAll("new", RobustPacking::new, alwaysRefused());
        tryAll("new", RobustPacking::new, List.of(new Row("undo()", NOT_POSSIBLE, RobustPacking::undo),
                new Row("load()", BAD_TEXT, RobustPacking::load)));
        tryAll("some", RefusedTest::some, alwaysRefused());
        tryAll("some", RefusedTest::some, refusedBySome());
        tryAll("some", RefusedTest::some, onlyLooking());
        tryAll("with a fault", RefusedTest::withFault, List.of(new Row("load()", BAD_TEXT, RobustPacking::load)));
        tryAll("undone", RefusedTest::undone, alwaysRefused());
        tryAll("eleven", RefusedTest::eleven, List.of(new Row("load()", TOO_MANY, RobustPacking::load)));
        tryAll("full", RefusedTest::full, alwaysRefused());
        tryAll("full", RefusedTest::full, refusedByFull());
        end("refused calls change nothing");
    }
}
