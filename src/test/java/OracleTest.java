import java.util.Random;

/**
 * Compares the class with a naive planner that follows the document's definitions word by word,
 * over many runs of calls drawn from fixed seeds.
 */
public final class OracleTest extends Due {
    private static long calls = 0;

    /** One run: the same calls on both, drawn by a seed; a scale tells how far the numbers are from their least or greatest. */
    private static final class Run {
        final Random random;
        final RobustPacking x = new RobustPacking();
        final Naive y = new Naive();
        final StringBuilder told = new StringBuilder();
        final int scale;
        final boolean high;
        final int most;
        int made = 0;
        boolean broken = false;

        Run(long seed, int scale, boolean high, int most) {
            random = new Random(seed);
            this.scale = scale;
            this.high = high;
            this.most = most;
        }

        int up(int bound) {
            return random.nextInt(bound);
        }

        /** Mostly what is given, now and then something beside it or far away. */
        int astray(int value) {
            int[] far = {-1, -2, 12, 13, 31, 32, 1000, 10000, 4096, Integer.MAX_VALUE, Integer.MIN_VALUE, value + 1, value - 1};
            return up(25) == 0 ? far[up(far.length)] : value;
        }

        int anyItem() {
            return astray(up(Math.max(y.size(), 1)));
        }

        int anySet() {
            return astray(up(1 << y.size()));
        }

        int smallSet() {
            int set = 0;
            for (int i = up(Math.max(y.count(2), 1) + 1); i > 0; i--) {
                set |= 1 << up(Math.max(y.size(), 1));
            }
            return astray(set);
        }

        int what(int end) {
            return astray(up(end));
        }

        int value(int property) {
            if (property == 4) {
                return up(5) - 1;
            }
            int least = property < 2 ? 1 : 0;
            return high ? 999 - up(scale) : Math.min(999, least + up(scale));
        }

        int anyCapacity() {
            int capacity = high ? 1000 * up(2 * y.size() + 2) - up(4 * scale) : up(scale * (y.size() + 2) * 3 / 2);
            return Math.max(0, Math.min(9999, capacity));
        }

        int anyProfit() {
            return Math.max(0, Math.min(12001, high ? 1000 * up(y.size() + 2) - up(4 * scale) : up(scale * (y.size() + 1))));
        }

        /** Only the first wrong answer of a run is told, with all calls before it. */
        void due(String call, int got, int want) {
            calls++;
            made++;
            if (got != want && !broken) {
                broken = true;
                Due.due("scale " + scale + ", behind\n" + told + call, got, want);
            }
            told.append("  ").append(call).append(" = ").append(want).append('\n');
        }

        String text() {
            String signs = "0123456789/+-@;";
            StringBuilder text = new StringBuilder();
            int items = 1 + up(3);
            for (int i = 0; i < items; i++) {
                text.append(i > 0 || y.pad.length() > 0 && up(3) > 0 ? ";" : "").append(value(0)).append('/').append(value(1));
                text.append(up(2) == 0 ? "+" + value(2) : "").append(up(2) == 0 ? "-" + value(3) : "");
                text.append(up(3) == 0 ? "@" + up(4) : "");
            }
            for (int i = 0; i < text.length(); i++) {
                if (up(80) == 0) {
                    text.setCharAt(i, up(9) == 0 ? (char) (33 + up(94)) : signs.charAt(up(signs.length())));
                }
            }
            return text.toString();
        }

        void write() {
            String text = text();
            for (int at = 0; at < text.length(); at += 8) {
                long characters = 0;
                for (int i = at; i < text.length() && i < at + 8; i++) {
                    characters = characters << 8 | text.charAt(i);
                }
                characters = up(60) == 0 ? random.nextLong() : up(60) == 0 ? characters << 8 : characters;
                due("put(" + characters + ")", x.put(characters), y.put(characters));
            }
        }

        void change() {
            int a;
            int b;
            int c;
            int d;
            switch (up(11)) {
                case 0:
                case 1:
                case 2:
                    if (y.size() >= most) {
                        return;
                    }
                    a = astray(value(0));
                    b = astray(value(1));
                    c = astray(value(2));
                    d = astray(value(3));
                    due("add(" + a + ", " + b + ", " + c + ", " + d + ")", x.add(a, b, c, d), y.add(a, b, c, d));
                    return;
                case 3:
                    a = up(3) > 0 ? -1 : anyItem();
                    due("remove(" + a + ")", x.remove(a), y.remove(a));
                    return;
                case 4:
                    a = anyItem();
                    b = what(5);
                    c = astray(value(Math.floorMod(b, 5)));
                    due("set(" + a + ", " + b + ", " + c + ")", x.set(a, b, c), y.set(a, b, c));
                    return;
                case 5:
                    a = anyItem();
                    b = anyItem();
                    due("conflict(" + a + ", " + b + ")", x.conflict(a, b), y.conflict(a, b));
                    return;
                case 6:
                    a = anyItem();
                    b = anyItem();
                    due("need(" + a + ", " + b + ")", x.need(a, b), y.need(a, b));
                    return;
                case 7:
                    a = 0;
                    b = astray(anyCapacity());
                    due("rule(" + a + ", " + b + ")", x.rule(a, b), y.rule(a, b));
                    return;
                case 8:
                    a = astray(1 + up(2));
                    b = astray(up(y.size() + 2));
                    due("rule(" + a + ", " + b + ")", x.rule(a, b), y.rule(a, b));
                    return;
                case 9:
                    write();
                    due("fault()", x.fault(), y.fault());
                    if (y.size() + 3 <= most || y.fault() != NONE) {
                        due("load()", x.load(), y.load());
                    }
                    if (up(3) > 0) {
                        due("wipe()", x.wipe(), y.wipe());
                    }
                    return;
                default:
                    if (up(2) == 0) {
                        due("undo()", x.undo(), y.undo());
                    }
            }
        }

        void look() {
            int a;
            int b;
            int c;
            switch (up(19)) {
                case 0:
                    a = anyItem();
                    b = what(8);
                    due("item(" + a + ", " + b + ")", x.item(a, b), y.item(a, b));
                    return;
                case 1:
                case 2:
                    a = anySet();
                    b = what(9);
                    due("choice(" + a + ", " + b + ")", x.choice(a, b), y.choice(a, b));
                    return;
                case 3:
                    a = anySet();
                    b = smallSet();
                    due("weightIn(" + a + ", " + b + ")", x.weightIn(a, b), y.weightIn(a, b));
                    return;
                case 4:
                case 5:
                    a = what(7);
                    due("best(" + a + ")", x.best(a), y.best(a));
                    return;
                case 6:
                    a = astray(anyCapacity());
                    b = astray(up(y.size() + 2));
                    c = astray(up(y.size() + 2));
                    due("bestWith(" + a + ", " + b + ", " + c + ")", x.bestWith(a, b, c), y.bestWith(a, b, c));
                    return;
                case 7:
                    a = astray(anyProfit());
                    due("leastCapacity(" + a + ")", x.leastCapacity(a), y.leastCapacity(a));
                    return;
                case 8:
                    a = anyItem();
                    if (y.size() <= (high ? 7 : 4)) {
                        due("headroom(" + a + ")", x.headroom(a), y.headroom(a));
                    }
                    return;
                case 9:
                    a = what(2);
                    due("greedy(" + a + ")", x.greedy(a), y.greedy(a));
                    return;
                case 10:
                    a = anySet() & anySet();
                    b = up(9) == 0 ? anySet() : astray(anySet() & ~a);
                    c = what(2);
                    due("forced(" + a + ", " + b + ", " + c + ")", x.forced(a, b, c), y.forced(a, b, c));
                    return;
                case 11:
                    a = astray(up(1 << Math.min(y.size(), 4)) - 1);
                    b = what(3);
                    due("frontier(" + a + ", " + b + ")", x.frontier(a, b), y.frontier(a, b));
                    return;
                case 12:
                    a = up(3) == 0 ? anySet() : anySet() & anySet();
                    b = what(2);
                    due("improve(" + a + ", " + b + ")", x.improve(a, b), y.improve(a, b));
                    return;
                case 13:
                    a = astray(up(y.size() + 1));
                    b = astray(up(1 << Math.min(y.size(), 4)) - 1);
                    due("list(" + a + ", " + b + ")", x.list(a, b), y.list(a, b));
                    return;
                case 14:
                    a = astray(up(y.size() + 1));
                    b = a >= 0 && a <= 12 ? astray(up(1 << a)) : anySet();
                    due("dominator(" + a + ", " + b + ")", x.dominator(a, b), y.dominator(a, b));
                    return;
                case 15:
                    a = astray(up(y.size() + 2) - 1);
                    due("threshold(" + a + ")", x.threshold(a), y.threshold(a));
                    due("plain(" + a + ")", x.plain(a), y.plain(a));
                    return;
                case 16:
                    a = anySet();
                    b = smallSet();
                    c = astray(up(4));
                    due("recovered(" + a + ", " + b + ", " + c + ")", x.recovered(a, b, c), y.recovered(a, b, c));
                    return;
                case 17:
                    a = anySet();
                    b = astray(up(4));
                    c = what(2);
                    if (Integer.bitCount(a) <= 8) {
                        due("adversary(" + a + ", " + b + ", " + c + ")", x.adversary(a, b, c), y.adversary(a, b, c));
                    }
                    return;
                default:
                    a = what(8);
                    due("count(" + a + ")", x.count(a), y.count(a));
            }
        }

        void go(int rounds) {
            // Behind its 512th call, what a planner answers is free; a round has at most a few dozen.
            for (int i = 0; i < rounds && !broken && made < 450; i++) {
                change();
                look();
            }
        }
    }

    private static void runs(int number, int scale, boolean high, int most, int rounds) {
        for (int i = 0; i < number; i++) {
            Run run = new Run(1000003L * scale + 101L * most + i, scale, high, most);
            run.go(rounds);
        }
    }

    public static void main(String[] args) {
        runs(700, 4, false, 5, 80);
        runs(300, 12, false, 6, 80);
        runs(150, 100, false, 6, 80);
        runs(150, 999, false, 5, 80);
        runs(12, 5, false, 9, 120);
        runs(6, 999, false, 12, 120);
        runs(6, 20, false, 15, 120);
        runs(200, 4, true, 7, 80);
        runs(200, 40, true, 5, 80);
        runs(6, 3, true, 12, 120);
        end(calls + " calls compared");
    }
}
