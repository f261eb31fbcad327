import java.util.ArrayList;
import java.util.Arrays;
import java.util.List;
import java.util.regex.Pattern;

/** A planner that follows the document's definitions word by word, however long it takes. */
final class Naive {
    private static final int NO_SUCH = -1, BAD_VALUE = -2, BAD_TEXT = -3, TOO_MANY = -4, NOT_POSSIBLE = -5, NONE = -6;
    private static final int SHIFT = 100000;
    private static final String LARGE = "[1-9][0-9]{0,2}";
    private static final String ANY = "(0|" + LARGE + ")";
    private static final String ITEM = LARGE + "/" + LARGE + "(\\+" + ANY + ")?(-" + ANY + ")?(@[0-3])?";
    private static final Pattern ITEMS = Pattern.compile(ITEM + "(;" + ITEM + ")*");
    private static final String[] ENDINGS = {"", "0", "1", "/1", "1/1"};

    /** An item; conditions are held by reference, so that removing needs no renumbering. */
    private static final class Thing {
        final int[] property = {0, 0, 0, 0, -1};
        final List<Thing> conflicts = new ArrayList<>();
        final List<Thing> needs = new ArrayList<>();
    }

    private static final class Saved {
        List<Thing> things = new ArrayList<>();
        int[] settings = {1000, 0, 0};

        Saved copy() {
            Saved copy = new Saved();
            copy.settings = settings.clone();
            for (Thing thing : things) {
                Thing twin = new Thing();
                System.arraycopy(thing.property, 0, twin.property, 0, 5);
                copy.things.add(twin);
            }
            for (int i = 0; i < things.size(); i++) {
                for (Thing other : things.get(i).conflicts) {
                    copy.things.get(i).conflicts.add(copy.things.get(things.indexOf(other)));
                }
                for (Thing other : things.get(i).needs) {
                    copy.things.get(i).needs.add(copy.things.get(things.indexOf(other)));
                }
            }
            return copy;
        }
    }

    Saved now = new Saved();
    final List<Saved> history = new ArrayList<>();
    String pad = "";
    /** Worst scenarios found since the last change, by property and budget: they are asked for again and again. */
    int[][][] known = new int[4][13][];

    void forget() {
        known = new int[4][13][];
    }

    int size() {
        return now.things.size();
    }

    boolean isItem(int item) {
        return item >= 0 && item < size();
    }

    boolean isSet(int items) {
        return items >= 0 && items < (1 << size());
    }

    void save() {
        forget();
        history.add(now.copy());
        if (history.size() > 12) {
            history.remove(0);
        }
    }

    static boolean has(int set, int k) {
        return (set & (1 << k)) != 0;
    }

    static boolean fitsProperty(int property, int value) {
        switch (property) {
            case 0:
            case 1:
                return 1 <= value && value <= 999;
            case 2:
            case 3:
                return 0 <= value && value <= 999;
            default:
                return -1 <= value && value <= 3;
        }
    }

    int add(int p, int w, int wd, int pd) {
        if (!fitsProperty(0, p) || !fitsProperty(1, w) || !fitsProperty(2, wd) || !fitsProperty(3, pd)) {
            return BAD_VALUE;
        }
        if (size() == 12) {
            return TOO_MANY;
        }
        save();
        append(p, w, wd, pd, -1);
        return size() - 1;
    }

    void append(int p, int w, int wd, int pd, int group) {
        Thing thing = new Thing();
        int[] given = {p, w, wd, pd, group};
        System.arraycopy(given, 0, thing.property, 0, 5);
        now.things.add(thing);
    }

    int remove(int item) {
        if (!isItem(item)) {
            return NO_SUCH;
        }
        save();
        Thing gone = now.things.remove(item);
        for (Thing thing : now.things) {
            thing.conflicts.remove(gone);
            thing.needs.remove(gone);
        }
        return size();
    }

    int shown(int item, int property) {
        int value = now.things.get(item).property[property];
        return property == 4 && value == -1 ? NONE : value;
    }

    int set(int item, int property, int value) {
        if (!isItem(item)) {
            return NO_SUCH;
        }
        if (property < 0 || property > 4 || !fitsProperty(property, value)) {
            return BAD_VALUE;
        }
        int previous = shown(item, property);
        save();
        now.things.get(item).property[property] = value;
        return previous;
    }

    int item(int item, int property) {
        if (!isItem(item)) {
            return NO_SUCH;
        }
        if (property < 0 || property > 7) {
            return BAD_VALUE;
        }
        if (property < 5) {
            return shown(item, property);
        }
        Thing thing = now.things.get(item);
        int set = 0;
        for (int k = 0; k < size(); k++) {
            Thing other = now.things.get(k);
            boolean in = property == 5 ? thing.conflicts.contains(other)
                    : property == 6 ? thing.needs.contains(other) : other.needs.contains(thing);
            if (in) {
                set += 1 << k;
            }
        }
        return set;
    }

    static int toggle(List<Thing> list, Thing other) {
        if (list.remove(other)) {
            return 0;
        }
        list.add(other);
        return 1;
    }

    int conflict(int item, int other) {
        if (!isItem(item) || !isItem(other)) {
            return NO_SUCH;
        }
        if (item == other) {
            return BAD_VALUE;
        }
        save();
        toggle(now.things.get(item).conflicts, now.things.get(other));
        return toggle(now.things.get(other).conflicts, now.things.get(item));
    }

    int need(int item, int other) {
        if (!isItem(item) || !isItem(other)) {
            return NO_SUCH;
        }
        if (item == other) {
            return BAD_VALUE;
        }
        save();
        return toggle(now.things.get(item).needs, now.things.get(other));
    }

    int rule(int setting, int value) {
        if (setting < 0 || setting > 2 || value < 0 || value > (setting == 0 ? 9999 : 12)) {
            return BAD_VALUE;
        }
        int previous = now.settings[setting];
        save();
        now.settings[setting] = value;
        return previous;
    }

    int put(long characters) {
        StringBuilder text = new StringBuilder();
        boolean ended = false;
        for (int i = 0; i < 8; i++) {
            int code = (int) ((characters >>> (8 * i)) & 255);
            if (code == 0) {
                ended = true;
            } else if (ended || code < 33 || code > 126) {
                return BAD_VALUE;
            } else {
                text.append((char) code);
            }
        }
        if (text.length() == 0) {
            return BAD_VALUE;
        }
        if (pad.length() + text.length() > 80) {
            return TOO_MANY;
        }
        pad += text.reverse();
        return pad.length();
    }

    int wipe() {
        int length = pad.length();
        pad = "";
        return length;
    }

    static boolean canBegin(String text) {
        for (String ending : ENDINGS) {
            if (ITEMS.matcher(text + ending).matches()) {
                return true;
            }
        }
        return false;
    }

    int fault() {
        for (int i = 0; i < pad.length(); i++) {
            if (!canBegin(pad.substring(0, i + 1))) {
                return i;
            }
        }
        return ITEMS.matcher(pad).matches() ? NONE : pad.length();
    }

    static int after(String text, char sign, int without) {
        int at = text.indexOf(sign);
        if (at < 0) {
            return without;
        }
        int end = at + 1;
        while (end < text.length() && Character.isDigit(text.charAt(end))) {
            end++;
        }
        return Integer.parseInt(text.substring(at + 1, end));
    }

    int load() {
        if (fault() != NONE) {
            return BAD_TEXT;
        }
        String[] parts = pad.split(";");
        if (size() + parts.length > 12) {
            return TOO_MANY;
        }
        save();
        for (String part : parts) {
            int profit = Integer.parseInt(part.substring(0, part.indexOf('/')));
            append(profit, after(part, '/', 0), after(part, '+', 0), after(part, '-', 0), after(part, '@', -1));
        }
        pad = "";
        return parts.length;
    }

    int sum(int items, int property) {
        int sum = 0;
        for (int k = 0; k < size(); k++) {
            sum += has(items, k) ? now.things.get(k).property[property] : 0;
        }
        return sum;
    }

    int weightOf(int items, int scenario) {
        return sum(items, 1) + sum(items & scenario, 2);
    }

    int profitOf(int items, int scenario) {
        return sum(items, 0) - sum(items & scenario, 3);
    }

    /** The worst scenario among all subsets of the choice, straight from its definition. */
    int findWorst(int items, int property, int budget) {
        int worst = 0;
        int most = 0;
        for (int scenario = items; scenario > 0; scenario = (scenario - 1) & items) {
            if (Integer.bitCount(scenario) > budget) {
                continue;
            }
            int gain = sum(scenario, property) - most;
            int more = Integer.bitCount(scenario) - Integer.bitCount(worst);
            if (gain > 0 || gain == 0 && (more < 0 || more == 0 && scenario < worst)) {
                worst = scenario;
                most += gain;
            }
        }
        return worst;
    }

    int worst(int items, int property, int budget) {
        if (known[property][budget] == null) {
            known[property][budget] = new int[1 << size()];
            Arrays.fill(known[property][budget], -1);
        }
        if (known[property][budget][items] < 0) {
            known[property][budget][items] = findWorst(items, property, budget);
        }
        return known[property][budget][items];
    }

    int guarded(int items, int g) {
        return weightOf(items, worst(items, 2, g));
    }

    int guardedProfit(int items, int h) {
        return profitOf(items, worst(items, 3, h));
    }

    boolean allowed(int items) {
        int[] groups = new int[4];
        for (int k = 0; k < size(); k++) {
            if (!has(items, k)) {
                continue;
            }
            Thing thing = now.things.get(k);
            if (thing.property[4] >= 0 && ++groups[thing.property[4]] > 1) {
                return false;
            }
            for (int other = 0; other < size(); other++) {
                if (has(items, other) && thing.conflicts.contains(now.things.get(other))) {
                    return false;
                }
                if (!has(items, other) && thing.needs.contains(now.things.get(other))) {
                    return false;
                }
            }
        }
        return true;
    }

    boolean stands(int items, int capacity, int g) {
        return allowed(items) && guarded(items, g) <= capacity;
    }

    int choice(int items, int what) {
        if (!isSet(items)) {
            return NO_SUCH;
        }
        int g = now.settings[1];
        int h = now.settings[2];
        switch (what) {
            case 0:
                return sum(items, 1);
            case 1:
                return guarded(items, g);
            case 2:
                return sum(items, 0) + SHIFT;
            case 3:
                return guardedProfit(items, h) + SHIFT;
            case 4:
                return allowed(items) ? 1 : 0;
            case 5:
                return guarded(items, g) <= now.settings[0] ? 1 : 0;
            case 6:
                return worst(items, 2, g);
            case 7:
                return worst(items, 3, h);
            case 8:
                int greatest = NONE;
                for (int other = 0; other <= 12; other++) {
                    greatest = guarded(items, other) <= now.settings[0] ? other : greatest;
                }
                return greatest;
            default:
                return BAD_VALUE;
        }
    }

    int weightIn(int items, int scenario) {
        if (!isSet(items) || !isSet(scenario)) {
            return NO_SUCH;
        }
        return Integer.bitCount(scenario) > now.settings[1] ? NOT_POSSIBLE : weightOf(items, scenario);
    }

    /** Whether a comes before b in the order in which best choices are chosen. */
    boolean before(int a, int b, int g, int h) {
        int gain = guardedProfit(a, h) - guardedProfit(b, h);
        int weight = guarded(a, g) - guarded(b, g);
        return gain > 0 || gain == 0 && (weight < 0 || weight == 0 && a < b);
    }

    int bestOf(int capacity, int g, int h, int with, int without) {
        int best = NONE;
        for (int items = 0; items < 1 << size(); items++) {
            if ((items & with) == with && (items & without) == 0 && stands(items, capacity, g)
                    && (best < 0 || before(items, best, g, h))) {
                best = items;
            }
        }
        return best;
    }

    int bestNow() {
        return bestOf(now.settings[0], now.settings[1], now.settings[2], 0, 0);
    }

    int best(int what) {
        if (what < 0 || what > 6) {
            return BAD_VALUE;
        }
        int best = bestNow();
        int h = now.settings[2];
        int greatest = guardedProfit(best, h);
        int ties = 0;
        int standing = 0;
        int all = (1 << size()) - 1;
        int inAll = all;
        int inSome = 0;
        for (int items = 0; items <= all; items++) {
            if (stands(items, now.settings[0], now.settings[1])) {
                standing++;
                if (guardedProfit(items, h) == greatest) {
                    ties++;
                    inAll &= items;
                    inSome |= items;
                }
            }
        }
        int[] answers = {best, greatest + SHIFT, guarded(best, now.settings[1]), ties, inAll, all - inSome, standing};
        return answers[what];
    }

    int bestWith(int capacity, int g, int h) {
        if (capacity < 0 || capacity > 9999 || g < 0 || g > 12 || h < 0 || h > 12) {
            return BAD_VALUE;
        }
        return guardedProfit(bestOf(capacity, g, h, 0, 0), h) + SHIFT;
    }

    /** The steps of the frontier as {capacity, profit, choice}, found by trying every capacity. */
    List<int[]> steps() {
        int end = 1 << size();
        int[] weights = new int[end];
        int[] profits = new int[end];
        for (int items = 0; items < end; items++) {
            weights[items] = allowed(items) ? guarded(items, now.settings[1]) : Integer.MAX_VALUE;
            profits[items] = guardedProfit(items, now.settings[2]);
        }
        List<int[]> steps = new ArrayList<>();
        int last = Integer.MIN_VALUE;
        for (int capacity = 0; capacity <= 9999; capacity++) {
            int best = 0;
            for (int items = 1; items < end; items++) {
                if (weights[items] <= capacity && (profits[items] > profits[best]
                        || profits[items] == profits[best] && weights[items] < weights[best])) {
                    best = items;
                }
            }
            if (profits[best] > last) {
                last = profits[best];
                steps.add(new int[] {capacity, last + SHIFT, best});
            }
        }
        return steps;
    }

    int leastCapacity(int profit) {
        if (profit < 0 || profit > 12000) {
            return BAD_VALUE;
        }
        for (int[] step : steps()) {
            if (step[1] - SHIFT >= profit) {
                return step[0];
            }
        }
        return NONE;
    }

    int frontier(int index, int what) {
        if (what < 0 || what > 2) {
            return BAD_VALUE;
        }
        List<int[]> steps = steps();
        if (index == -1) {
            return steps.size();
        }
        return index < 0 || index >= steps.size() ? NONE : steps.get(index)[what];
    }

    int headroom(int item) {
        if (!isItem(item)) {
            return NO_SUCH;
        }
        int best = bestNow();
        int[] property = now.things.get(item).property;
        int first = property[2];
        int increase = 0;
        while (property[2] < 999) {
            property[2]++;
            forget();
            if (bestNow() != best) {
                break;
            }
            increase++;
        }
        property[2] = first;
        forget();
        return increase;
    }

    int greedy(int what) {
        if (what != 0 && what != 1) {
            return BAD_VALUE;
        }
        List<Integer> order = new ArrayList<>();
        for (int k = 0; k < size(); k++) {
            order.add(k);
        }
        order.sort((a, b) -> {
            int[] x = now.things.get(a).property;
            int[] y = now.things.get(b).property;
            return Long.compare((long) y[0] * (x[1] + x[2]), (long) x[0] * (y[1] + y[2]));
        });
        int chosen = 0;
        for (int k : order) {
            if (stands(chosen + (1 << k), now.settings[0], now.settings[1])) {
                chosen += 1 << k;
            }
        }
        return what == 0 ? chosen : guardedProfit(chosen, now.settings[2]) + SHIFT;
    }

    int forced(int with, int without, int what) {
        if (!isSet(with) || !isSet(without)) {
            return NO_SUCH;
        }
        if (what != 0 && what != 1) {
            return BAD_VALUE;
        }
        if ((with & without) != 0) {
            return NOT_POSSIBLE;
        }
        int best = bestOf(now.settings[0], now.settings[1], now.settings[2], with, without);
        return best < 0 || what == 0 ? best : guardedProfit(best, now.settings[2]) + SHIFT;
    }

    int improve(int items, int what) {
        if (!isSet(items)) {
            return NO_SUCH;
        }
        if (what != 0 && what != 1) {
            return BAD_VALUE;
        }
        if (!stands(items, now.settings[0], now.settings[1])) {
            return NOT_POSSIBLE;
        }
        int present = items;
        int steps = 0;
        while (true) {
            int next = present;
            for (int near = 0; near < 1 << size(); near++) {
                int in = Integer.bitCount(near & ~present);
                int out = Integer.bitCount(present & ~near);
                if (in <= 1 && out <= 1 && stands(near, now.settings[0], now.settings[1])
                        && before(near, next, now.settings[1], now.settings[2])) {
                    next = near;
                }
            }
            if (next == present) {
                return what == 0 ? present : steps;
            }
            present = next;
            steps++;
        }
    }

    /** A state of a level: a choice with its plain profit and its protected weight. */
    int[] stateOf(int items) {
        return new int[] {items, sum(items, 0), guarded(items, now.settings[1])};
    }

    static boolean dominates(int[] a, int[] b) {
        boolean same = a[1] == b[1] && a[2] == b[2];
        return a[1] >= b[1] && a[2] <= b[2] && (!same || a[0] < b[0]);
    }

    List<int[]> listOf(int level) {
        List<int[]> fitting = new ArrayList<>();
        for (int items = 0; items < 1 << level; items++) {
            if (guarded(items, now.settings[1]) <= now.settings[0]) {
                fitting.add(stateOf(items));
            }
        }
        List<int[]> list = new ArrayList<>();
        for (int[] state : fitting) {
            if (fitting.stream().noneMatch(other -> dominates(other, state))) {
                list.add(state);
            }
        }
        list.sort((a, b) -> Integer.compare(a[2], b[2]));
        return list;
    }

    int list(int level, int index) {
        if (level < 0 || level > size()) {
            return NO_SUCH;
        }
        List<int[]> list = listOf(level);
        if (index == -1) {
            return list.size();
        }
        return index < 0 || index >= list.size() ? NONE : list.get(index)[0];
    }

    int dominator(int level, int items) {
        if (level < 0 || level > size() || items < 0 || items >= 1 << level) {
            return NO_SUCH;
        }
        if (guarded(items, now.settings[1]) > now.settings[0]) {
            return NOT_POSSIBLE;
        }
        for (int[] other : listOf(level)) {
            if (dominates(other, stateOf(items))) {
                return other[0];
            }
        }
        return NONE;
    }

    List<Integer> thresholds() {
        List<Integer> thresholds = new ArrayList<>();
        thresholds.add(0);
        for (Thing thing : now.things) {
            if (!thresholds.contains(thing.property[2])) {
                thresholds.add(thing.property[2]);
            }
        }
        thresholds.sort((a, b) -> Integer.compare(b, a));
        return thresholds;
    }

    int threshold(int index) {
        List<Integer> thresholds = thresholds();
        if (index == -1) {
            return thresholds.size();
        }
        return index < 0 || index >= thresholds.size() ? NONE : thresholds.get(index);
    }

    int plain(int index) {
        List<Integer> thresholds = thresholds();
        if (index < 0 || index >= thresholds.size()) {
            return NO_SUCH;
        }
        int t = thresholds.get(index);
        int greatest = NONE;
        for (int items = 0; items < 1 << size(); items++) {
            int weight = 0;
            for (int k = 0; k < size(); k++) {
                int[] property = now.things.get(k).property;
                weight += has(items, k) ? property[1] + Math.max(property[2] - t, 0) : 0;
            }
            if (allowed(items) && weight <= now.settings[0] - now.settings[1] * t) {
                greatest = Math.max(greatest, sum(items, 0));
            }
        }
        return greatest;
    }

    int rescued(int items, int scenario, int r) {
        int greatest = NONE;
        for (int gone = items; gone >= 0; gone = gone == 0 ? -1 : (gone - 1) & items) {
            int rest = items - gone;
            if (Integer.bitCount(gone) <= r && weightOf(rest, scenario) <= now.settings[0] && allowed(rest)) {
                greatest = Math.max(greatest, sum(rest, 0));
            }
        }
        return greatest;
    }

    int recovered(int items, int scenario, int r) {
        if (!isSet(items) || !isSet(scenario)) {
            return NO_SUCH;
        }
        if (r < 0 || r > 12) {
            return BAD_VALUE;
        }
        return Integer.bitCount(scenario) > now.settings[1] ? NOT_POSSIBLE : rescued(items, scenario, r);
    }

    int adversary(int items, int r, int what) {
        if (!isSet(items)) {
            return NO_SUCH;
        }
        if (r < 0 || r > 12 || what < 0 || what > 1) {
            return BAD_VALUE;
        }
        int least = Integer.MAX_VALUE;
        int least0 = -1;
        int lost = -1;
        for (int scenario = items; scenario >= 0; scenario--) {
            if ((scenario & ~items) != 0 || Integer.bitCount(scenario) > now.settings[1]) {
                continue;
            }
            int profit = rescued(items, scenario, r);
            if (profit == NONE) {
                lost = scenario;
            } else if (profit <= least) {
                least = profit;
                least0 = scenario;
            }
        }
        if (lost >= 0) {
            return what == 0 ? NONE : lost;
        }
        return what == 0 ? least : least0;
    }

    int undo() {
        if (history.isEmpty()) {
            return NOT_POSSIBLE;
        }
        forget();
        now = history.remove(history.size() - 1);
        return history.size();
    }

    int count(int what) {
        int conflicts = 0;
        int needs = 0;
        for (Thing thing : now.things) {
            conflicts += thing.conflicts.size();
            needs += thing.needs.size();
        }
        int[] answers = {size(), now.settings[0], now.settings[1], now.settings[2], conflicts / 2, needs,
            pad.length(), history.size()};
        return what < 0 || what >= answers.length ? BAD_VALUE : answers[what];
    }
}
