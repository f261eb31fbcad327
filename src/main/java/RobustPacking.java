/**
 * A planner that chooses items for a load of limited weight, while weights and profits may deviate.
 * Sets of items are bit masks throughout: bit k stands for item k.
 */
public final class RobustPacking {
    public static final int NO_SUCH = -1, BAD_VALUE = -2, BAD_TEXT = -3, TOO_MANY = -4, NOT_POSSIBLE = -5, NONE = -6;
    public static final int SHIFT = 100000;
    public static final int CAPACITY = 0, WEIGHT_BUDGET = 1, PROFIT_BUDGET = 2;
    public static final int PROFIT = 0, WEIGHT = 1, WEIGHT_DEVIATION = 2, PROFIT_DEVIATION = 3, GROUP = 4;

    private static final int MOST_ITEMS = 12;
    private static final int MOST_CHOICES = 4096;
    private static final int MOST_CAPACITY = 9999;
    private static final int MOST_BUDGET = 12;
    private static final int MOST_DEVIATION = 999;
    private static final int MOST_PROFIT_ASKED = 12000;
    private static final int ABOVE_ALL_PROFITS = 100000;
    private static final int MOST_CALLS_KEPT = 12;
    private static final int MOST_SIGNS = 80;
    private static final int MOST_ITEMS_READ = 20;
    private static final int MOST_DIGITS = 3;
    private static final int FIRST_CAPACITY = 1000;
    private static final int NO_GROUP = -1;
    private static final int PROPERTIES = 5;
    private static final int CONFLICTS = 5, NEEDS = 6, NEEDED_BY = 7;
    private static final int SETTINGS = 3;
    private static final int EXCLUDED = -1;

    /** The ranges of the properties, in the order of their numbers. */
    private static final int[] LEAST_OF_PROPERTY = {1, 1, 0, 0, NO_GROUP};
    private static final int[] MOST_OF_PROPERTY = {999, 999, MOST_DEVIATION, 999, 3};
    private static final int[] MOST_OF_SETTING = {MOST_CAPACITY, MOST_BUDGET, MOST_BUDGET};

    private final State state;
    /** A ring: the state before the latest call kept lies just before nextKept. */
    private final State[] history;
    private int kept;
    private int nextKept;
    private final Pad pad;
    private final Choices choices;
    private final Staircase staircase;
    private final Recovery recovery;

    public RobustPacking() {
        state = new State();
        history = new State[MOST_CALLS_KEPT];
        for (int i = 0; i < MOST_CALLS_KEPT; i++) {
            history[i] = new State();
        }
        kept = 0;
        nextKept = 0;
        pad = new Pad();
        choices = new Choices();
        staircase = new Staircase();
        recovery = new Recovery();
    }

    // ---- items and conditions

    public int add(int profit, int weight, int weightDeviation, int profitDeviation) {
        if (!inRange(PROFIT, profit) || !inRange(WEIGHT, weight)
                || !inRange(WEIGHT_DEVIATION, weightDeviation) || !inRange(PROFIT_DEVIATION, profitDeviation)) {
            return BAD_VALUE;
        }
        if (state.size >= MOST_ITEMS) {
            return TOO_MANY;
        }
        remember();
        state.append(profit, weight, weightDeviation, profitDeviation, NO_GROUP);
        return state.size - 1;
    }

    public int remove(int item) {
        if (!exists(item)) {
            return NO_SUCH;
        }
        remember();
        state.takeOut(item);
        return state.size;
    }

    public int set(int item, int property, int value) {
        if (!exists(item)) {
            return NO_SUCH;
        }
        if (property < 0 || property >= PROPERTIES || !inRange(property, value)) {
            return BAD_VALUE;
        }
        int previous = propertyOf(item, property);
        remember();
        state.properties[property][item] = value;
        return previous;
    }

    public int item(int item, int property) {
        if (!exists(item)) {
            return NO_SUCH;
        }
        if (property >= 0 && property < PROPERTIES) {
            return propertyOf(item, property);
        }
        if (property == CONFLICTS) {
            return state.conflicts[item];
        }
        if (property == NEEDS) {
            return state.needs[item];
        }
        if (property == NEEDED_BY) {
            return state.neededBy(item);
        }
        return BAD_VALUE;
    }

    public int conflict(int item, int other) {
        int error = pairError(item, other);
        if (error != 0) {
            return error;
        }
        remember();
        state.conflicts[item] ^= 1 << other;
        state.conflicts[other] ^= 1 << item;
        return state.conflicts[item] >> other & 1;
    }

    public int need(int item, int other) {
        int error = pairError(item, other);
        if (error != 0) {
            return error;
        }
        remember();
        state.needs[item] ^= 1 << other;
        return state.needs[item] >> other & 1;
    }

    public int rule(int setting, int value) {
        if (setting < 0 || setting >= SETTINGS || value < 0 || value > MOST_OF_SETTING[setting]) {
            return BAD_VALUE;
        }
        int previous = state.settings[setting];
        remember();
        state.settings[setting] = value;
        return previous;
    }

    // ---- texts

    public int put(long characters) {
        int length = Pad.lengthOf(characters);
        if (length == 0) {
            return BAD_VALUE;
        }
        if (pad.length + length > MOST_SIGNS) {
            return TOO_MANY;
        }
        pad.append(characters, length);
        return pad.length;
    }

    public int wipe() {
        int length = pad.length;
        pad.length = 0;
        return length;
    }

    public int fault() {
        return pad.read() ? NONE : pad.position;
    }

    public int load() {
        if (!pad.read()) {
            return BAD_TEXT;
        }
        if (state.size + pad.found > MOST_ITEMS) {
            return TOO_MANY;
        }
        remember();
        for (int i = 0; i < pad.found; i++) {
            state.append(pad.items[PROFIT][i], pad.items[WEIGHT][i], pad.items[WEIGHT_DEVIATION][i],
                    pad.items[PROFIT_DEVIATION][i], pad.items[GROUP][i]);
        }
        pad.length = 0;
        return pad.found;
    }

    // ---- choices

    public int choice(int items, int what) {
        if (!isChoice(items)) {
            return NO_SUCH;
        }
        switch (what) {
            case 0:
                return state.weightUnder(items, 0);
            case 1:
                return protectedWeight(items, budget(WEIGHT_BUDGET));
            case 2:
                return state.profitUnder(items, 0) + SHIFT;
            case 3:
                return state.profitUnder(items, worstProfitScenario(items)) + SHIFT;
            case 4:
                prepare();
                return choices.allows(items) ? 1 : 0;
            case 5:
                return protectedWeight(items, budget(WEIGHT_BUDGET)) <= capacity() ? 1 : 0;
            case 6:
                return state.worst(items, WEIGHT_DEVIATION, budget(WEIGHT_BUDGET));
            case 7:
                return worstProfitScenario(items);
            case 8:
                return greatestBudget(items);
            default:
                return BAD_VALUE;
        }
    }

    public int weightIn(int items, int scenario) {
        if (!isChoice(items) || !isChoice(scenario)) {
            return NO_SUCH;
        }
        if (Integer.bitCount(scenario) > budget(WEIGHT_BUDGET)) {
            return NOT_POSSIBLE;
        }
        return state.weightUnder(items, scenario);
    }

    public int best(int what) {
        if (what < 0 || what > 6) {
            return BAD_VALUE;
        }
        prepare();
        int best = choices.firstOfAll(capacity());
        switch (what) {
            case 0:
                return best;
            case 1:
                return choices.shiftedProfit(best);
            case 2:
                return choices.weight[best];
            case 6:
                return choices.fitting(capacity());
            default:
                return amongBest(best, what);
        }
    }

    public int bestWith(int capacity, int g, int h) {
        if (capacity < 0 || capacity > MOST_CAPACITY || !isBudget(g) || !isBudget(h)) {
            return BAD_VALUE;
        }
        choices.fill(state, g, h);
        choices.ready = false;
        return choices.shiftedProfit(choices.firstOfAll(capacity));
    }

    public int leastCapacity(int profit) {
        if (profit < 0 || profit > MOST_PROFIT_ASKED) {
            return BAD_VALUE;
        }
        prepare();
        int least = MOST_CAPACITY + 1;
        for (int choice = 0; choice < choices.end; choice++) {
            if (choices.profit[choice] >= profit && choices.weight[choice] < least && choices.allows(choice)) {
                least = choices.weight[choice];
            }
        }
        return least > MOST_CAPACITY ? NONE : least;
    }

    public int headroom(int item) {
        if (!exists(item)) {
            return NO_SUCH;
        }
        prepare();
        int best = choices.firstOfAll(capacity());
        int most = MOST_DEVIATION - state.properties[WEIGHT_DEVIATION][item];
        // An increase makes only choices with the item heavier, so it cannot harm a best choice without it.
        if ((best >> item & 1) == 0) {
            return most;
        }
        // Halving is enough: a protected weight is max(a, b + d) for the increase d, so once another choice
        // has come before the best one, or the best one has become too heavy, it stays so for every greater d.
        int increase = 0;
        for (int step = 512; step > 0; step /= 2) {
            if (increase + step <= most && staysBest(best, item, increase + step)) {
                increase += step;
            }
        }
        choices.ready = false;
        return increase;
    }

    public int greedy(int what) {
        if (what != 0 && what != 1) {
            return BAD_VALUE;
        }
        prepare();
        int chosen = 0;
        int seen = 0;
        for (int i = 0; i < state.size; i++) {
            int next = state.mostFruitful(seen);
            seen |= 1 << next;
            if (choices.stands(chosen | 1 << next, capacity())) {
                chosen |= 1 << next;
            }
        }
        return what == 0 ? chosen : choices.shiftedProfit(chosen);
    }

    public int forced(int with, int without, int what) {
        if (!isChoice(with) || !isChoice(without)) {
            return NO_SUCH;
        }
        if (what != 0 && what != 1) {
            return BAD_VALUE;
        }
        if ((with & without) != 0) {
            return NOT_POSSIBLE;
        }
        prepare();
        int best = choices.first(capacity(), with, without);
        return what == 0 ? best : choices.shiftedProfit(best);
    }

    public int frontier(int index, int what) {
        if (what < 0 || what > 2) {
            return BAD_VALUE;
        }
        prepare();
        staircase.buildFrontier(choices);
        if (index == -1) {
            return staircase.length;
        }
        int choice = staircase.stepAt(index);
        if (choice < 0 || what == 2) {
            return choice;
        }
        return what == 0 ? choices.weight[choice] : choices.shiftedProfit(choice);
    }

    public int improve(int items, int what) {
        if (!isChoice(items)) {
            return NO_SUCH;
        }
        if (what != 0 && what != 1) {
            return BAD_VALUE;
        }
        prepare();
        if (!choices.stands(items, capacity())) {
            return NOT_POSSIBLE;
        }
        int present = items;
        int steps = 0;
        // Every step leads to a choice that comes before all earlier ones, so there are fewer steps than choices.
        for (int i = 0; i < MOST_CHOICES; i++) {
            int next = choices.firstNear(present, capacity());
            if (next == present) {
                break;
            }
            present = next;
            steps++;
        }
        return what == 0 ? present : steps;
    }

    // ---- dominance lists

    public int list(int level, int index) {
        if (!isLevel(level)) {
            return NO_SUCH;
        }
        prepare();
        staircase.buildList(choices, level, capacity());
        return index == -1 ? staircase.length : staircase.stepAt(index);
    }

    public int dominator(int level, int items) {
        if (!isLevel(level) || items < 0 || items >= 1 << level) {
            return NO_SUCH;
        }
        prepare();
        if (choices.weight[items] > capacity()) {
            return NOT_POSSIBLE;
        }
        staircase.buildList(choices, level, capacity());
        int dominator = staircase.firstWith(choices.value, choices.value[items]);
        return dominator == items ? NONE : dominator;
    }

    // ---- thresholds

    public int threshold(int index) {
        if (index == -1) {
            return thresholds();
        }
        return index >= 0 && index < thresholds() ? thresholdAt(index) : NONE;
    }

    public int plain(int index) {
        if (index < 0 || index >= thresholds()) {
            return NO_SUCH;
        }
        int threshold = thresholdAt(index);
        int room = capacity() - budget(WEIGHT_BUDGET) * threshold;
        if (room < 0) {
            return NONE;
        }
        prepare();
        return recovery.plainValue(choices, state, threshold, room);
    }

    // ---- recovery

    public int recovered(int items, int scenario, int r) {
        if (!isChoice(items) || !isChoice(scenario)) {
            return NO_SUCH;
        }
        if (r < 0 || r > MOST_ITEMS) {
            return BAD_VALUE;
        }
        if (Integer.bitCount(scenario) > budget(WEIGHT_BUDGET)) {
            return NOT_POSSIBLE;
        }
        prepare();
        recovery.collect(choices, state, items, r);
        return recovery.profitIn(scenario, ABOVE_ALL_PROFITS, choices.value, capacity());
    }

    public int adversary(int items, int r, int what) {
        if (!isChoice(items)) {
            return NO_SUCH;
        }
        if (r < 0 || r > MOST_ITEMS || what < 0 || what > 1) {
            return BAD_VALUE;
        }
        prepare();
        recovery.collect(choices, state, items, r);
        int least = ABOVE_ALL_PROFITS;
        int worst = 0;
        // A scenario without a recovered profit ends the search: NONE is below 0, and none is worse.
        for (int scenario = 0; scenario <= items && least >= 0; scenario++) {
            if ((scenario & ~items) != 0 || Integer.bitCount(scenario) > budget(WEIGHT_BUDGET)) {
                continue;
            }
            int profit = recovery.profitIn(scenario, least, choices.value, capacity());
            if (profit < least) {
                least = profit;
                worst = scenario;
            }
        }
        return what == 0 ? least : worst;
    }

    // ---- saving

    public int undo() {
        if (kept == 0) {
            return NOT_POSSIBLE;
        }
        nextKept = nextKept == 0 ? MOST_CALLS_KEPT - 1 : nextKept - 1;
        kept--;
        state.copyFrom(history[nextKept]);
        choices.ready = false;
        return kept;
    }

    public int count(int what) {
        switch (what) {
            case 0:
                return state.size;
            case 1:
            case 2:
            case 3:
                return state.settings[what - 1];
            case 4:
                // Each of the two items of a pair holds the other one.
                return state.bitsIn(state.conflicts) / 2;
            case 5:
                return state.bitsIn(state.needs);
            case 6:
                return pad.length;
            case 7:
                return kept;
            default:
                return BAD_VALUE;
        }
    }

    // ---- what the calls above share

    /** Every change of the state goes through here first, so that undo() and the tables miss none. */
    private void remember() {
        history[nextKept].copyFrom(state);
        nextKept = nextKept == MOST_CALLS_KEPT - 1 ? 0 : nextKept + 1;
        kept = Math.min(kept + 1, MOST_CALLS_KEPT);
        choices.ready = false;
    }

    private void prepare() {
        if (!choices.ready) {
            choices.fill(state, budget(WEIGHT_BUDGET), budget(PROFIT_BUDGET));
            choices.ready = true;
        }
    }

    private int capacity() {
        return state.settings[CAPACITY];
    }

    private int budget(int setting) {
        return state.settings[setting];
    }

    private boolean exists(int item) {
        return item >= 0 && item < state.size;
    }

    /** What is wrong with a pair of items for a condition, 0 if nothing is. */
    private int pairError(int item, int other) {
        if (!exists(item) || !exists(other)) {
            return NO_SUCH;
        }
        return item == other ? BAD_VALUE : 0;
    }

    private boolean isChoice(int items) {
        return items >= 0 && items < 1 << state.size;
    }

    private boolean isLevel(int level) {
        return level >= 0 && level <= state.size;
    }

    private static boolean isBudget(int value) {
        return value >= 0 && value <= MOST_BUDGET;
    }

    private static boolean inRange(int property, int value) {
        return value >= LEAST_OF_PROPERTY[property] && value <= MOST_OF_PROPERTY[property];
    }

    private int propertyOf(int item, int property) {
        int value = state.properties[property][item];
        return property == GROUP && value == NO_GROUP ? NONE : value;
    }

    private int protectedWeight(int items, int g) {
        return state.weightUnder(items, state.worst(items, WEIGHT_DEVIATION, g));
    }

    private int worstProfitScenario(int items) {
        return state.worst(items, PROFIT_DEVIATION, budget(PROFIT_BUDGET));
    }

    private int greatestBudget(int items) {
        for (int g = MOST_BUDGET; g >= 0; g--) {
            if (protectedWeight(items, g) <= capacity()) {
                return g;
            }
        }
        return NONE;
    }

    /** For 3 the number of choices as profitable as the best one, for 4 the items in all of them, for 5 those in none. */
    private int amongBest(int best, int what) {
        int all = choices.end - 1;
        int ties = 0;
        int common = all;
        int used = 0;
        for (int choice = 0; choice < choices.end; choice++) {
            if (choices.profit[choice] == choices.profit[best] && choices.stands(choice, capacity())) {
                ties++;
                common &= choice;
                used |= choice;
            }
        }
        if (what == 3) {
            return ties;
        }
        return what == 4 ? common : all & ~used;
    }

    private boolean staysBest(int best, int item, int increase) {
        choices.fillWeights(state, budget(WEIGHT_BUDGET), item, increase);
        return choices.firstOfAll(capacity()) == best;
    }

    private int thresholds() {
        int number = 0;
        int threshold = state.thresholdBelow(MOST_DEVIATION + 1);
        for (int i = 0; i <= MOST_ITEMS && threshold >= 0; i++) {
            number++;
            threshold = state.thresholdBelow(threshold);
        }
        return number;
    }

    private int thresholdAt(int index) {
        int threshold = MOST_DEVIATION + 1;
        for (int i = 0; i <= index && i <= MOST_ITEMS; i++) {
            threshold = state.thresholdBelow(threshold);
        }
        return threshold;
    }

    /** Fills a row with the sum of the values of each choice's items. */
    private static void sumUp(int[] row, int[] values, int size) {
        row[0] = 0;
        for (int item = 0; item < size; item++) {
            int bit = 1 << item;
            for (int rest = 0; rest < bit; rest++) {
                row[bit | rest] = row[rest] + values[item];
            }
        }
    }

    /** What undo() brings back: the items, their conditions and the settings. */
    private static final class State {
        final int[][] properties;
        final int[] conflicts;
        final int[] needs;
        final int[] settings;
        int size;

        State() {
            properties = new int[PROPERTIES][MOST_ITEMS];
            conflicts = new int[MOST_ITEMS];
            needs = new int[MOST_ITEMS];
            settings = new int[SETTINGS];
            settings[CAPACITY] = FIRST_CAPACITY;
            size = 0;
        }

        void copyFrom(State other) {
            for (int property = 0; property < PROPERTIES; property++) {
                System.arraycopy(other.properties[property], 0, properties[property], 0, MOST_ITEMS);
            }
            System.arraycopy(other.conflicts, 0, conflicts, 0, MOST_ITEMS);
            System.arraycopy(other.needs, 0, needs, 0, MOST_ITEMS);
            System.arraycopy(other.settings, 0, settings, 0, SETTINGS);
            size = other.size;
        }

        void append(int profit, int weight, int weightDeviation, int profitDeviation, int group) {
            if (size >= MOST_ITEMS) {
                return;
            }
            properties[PROFIT][size] = profit;
            properties[WEIGHT][size] = weight;
            properties[WEIGHT_DEVIATION][size] = weightDeviation;
            properties[PROFIT_DEVIATION][size] = profitDeviation;
            properties[GROUP][size] = group;
            // A removed item may have left its conditions in this place.
            conflicts[size] = 0;
            needs[size] = 0;
            size++;
        }

        void takeOut(int item) {
            for (int behind = item + 1; behind < size; behind++) {
                for (int property = 0; property < PROPERTIES; property++) {
                    properties[property][behind - 1] = properties[property][behind];
                }
                conflicts[behind - 1] = conflicts[behind];
                needs[behind - 1] = needs[behind];
            }
            size--;
            for (int other = 0; other < size; other++) {
                conflicts[other] = closeGap(conflicts[other], item);
                needs[other] = closeGap(needs[other], item);
            }
        }

        private static int closeGap(int items, int gap) {
            int below = (1 << gap) - 1;
            return items & below | items >> 1 & ~below;
        }

        int neededBy(int item) {
            int found = 0;
            for (int other = 0; other < size; other++) {
                if ((needs[other] >> item & 1) == 1) {
                    found |= 1 << other;
                }
            }
            return found;
        }

        /** The items that cannot be chosen together with this one. */
        int rivals(int item) {
            int found = conflicts[item];
            int group = properties[GROUP][item];
            for (int other = 0; other < size; other++) {
                if (other != item && group != NO_GROUP && properties[GROUP][other] == group) {
                    found |= 1 << other;
                }
            }
            return found;
        }

        int bitsIn(int[] sets) {
            int bits = 0;
            for (int item = 0; item < size; item++) {
                bits += Integer.bitCount(sets[item]);
            }
            return bits;
        }

        int weightUnder(int items, int scenario) {
            return sumOf(items, WEIGHT) + sumOf(items & scenario, WEIGHT_DEVIATION);
        }

        int profitUnder(int items, int scenario) {
            return sumOf(items, PROFIT) - sumOf(items & scenario, PROFIT_DEVIATION);
        }

        private int sumOf(int items, int property) {
            int sum = 0;
            for (int item = 0; item < size; item++) {
                if ((items >> item & 1) == 1) {
                    sum += properties[property][item];
                }
            }
            return sum;
        }

        /** The worst scenario of a choice: an item without a deviation would only make the set larger. */
        int worst(int items, int deviation, int budget) {
            int scenario = 0;
            for (int i = 0; i < budget; i++) {
                int found = -1;
                int most = 0;
                for (int item = 0; item < size; item++) {
                    boolean free = ((items & ~scenario) >> item & 1) == 1;
                    if (free && properties[deviation][item] > most) {
                        found = item;
                        most = properties[deviation][item];
                    }
                }
                if (found < 0) {
                    break;
                }
                scenario |= 1 << found;
            }
            return scenario;
        }

        /** The unseen item with the greatest profit for its weight and deviation; 0 if all have been seen. */
        int mostFruitful(int seen) {
            int found = -1;
            for (int item = 0; item < size; item++) {
                boolean unseen = (seen >> item & 1) == 0;
                if (unseen && (found < 0 || isMoreFruitful(item, found))) {
                    found = item;
                }
            }
            return Math.max(found, 0);
        }

        /** Multiplied crosswise, the fractions stay exact; the products stay below two million. */
        private boolean isMoreFruitful(int item, int other) {
            int weight = properties[WEIGHT][item] + properties[WEIGHT_DEVIATION][item];
            int otherWeight = properties[WEIGHT][other] + properties[WEIGHT_DEVIATION][other];
            return properties[PROFIT][item] * otherWeight > properties[PROFIT][other] * weight;
        }

        /** The greatest threshold below a bound, -1 if there is none. */
        int thresholdBelow(int bound) {
            int found = bound > 0 ? 0 : -1;
            for (int item = 0; item < size; item++) {
                int deviation = properties[WEIGHT_DEVIATION][item];
                if (deviation < bound && deviation > found) {
                    found = deviation;
                }
            }
            return found;
        }
    }

    /** The text from which items are read. */
    private static final class Pad {
        final int[] signs;
        int length;
        /** What read() has found: the properties, each a row with a place for every item. */
        final int[][] items;
        int found;
        /** Where read() stands; behind a reading that failed, the fault. */
        int position;

        Pad() {
            signs = new int[MOST_SIGNS];
            length = 0;
            items = new int[PROPERTIES][MOST_ITEMS_READ];
            found = 0;
            position = 0;
        }

        /** How many characters a number holds, 0 if it is not a number of put(). */
        static int lengthOf(long characters) {
            long left = characters;
            int length = 0;
            for (int i = 0; i < 8 && (left & 255) != 0; i++) {
                int code = (int) (left & 255);
                if (code < 33 || code > 126) {
                    return 0;
                }
                length++;
                left >>>= 8;
            }
            return left == 0 ? length : 0;
        }

        void append(long characters, int number) {
            for (int i = number - 1; i >= 0 && length < MOST_SIGNS; i--) {
                signs[length] = (int) (characters >>> 8 * i & 255);
                length++;
            }
        }

        /** Reads the whole text; false if it has a fault. */
        boolean read() {
            position = 0;
            found = 0;
            for (int i = 0; i < MOST_ITEMS_READ; i++) {
                if (!readItem()) {
                    return false;
                }
                found++;
                if (position == length) {
                    return true;
                }
                if (!accept(';')) {
                    return false;
                }
            }
            return false;
        }

        private boolean readItem() {
            return readNumber(PROFIT, 1) && accept('/') && readNumber(WEIGHT, 1)
                    && readDeviation('+', WEIGHT_DEVIATION) && readDeviation('-', PROFIT_DEVIATION)
                    && readGroup();
        }

        private boolean readDeviation(char sign, int property) {
            if (accept(sign)) {
                return readNumber(property, 0);
            }
            items[property][found] = 0;
            return true;
        }

        private boolean readGroup() {
            items[GROUP][found] = NO_GROUP;
            if (!accept('@')) {
                return true;
            }
            int group = digit();
            if (group < 0 || group > 3) {
                return false;
            }
            items[GROUP][found] = group;
            position++;
            return true;
        }

        private boolean readNumber(int property, int leastDigit) {
            int number = digit();
            if (number < leastDigit) {
                return false;
            }
            position++;
            // Behind a 0 there is no digit, as it would be a leading zero.
            for (int i = 1; i < MOST_DIGITS && number > 0 && digit() >= 0; i++) {
                number = number * 10 + digit();
                position++;
            }
            items[property][found] = number;
            return true;
        }

        private boolean accept(char sign) {
            if (position >= length || signs[position] != sign) {
                return false;
            }
            position++;
            return true;
        }

        /** The digit at the position, -1 if there is none. */
        private int digit() {
            if (position >= length || signs[position] < '0' || signs[position] > '9') {
                return -1;
            }
            return signs[position] - '0';
        }
    }

    /** Rows with a place for every choice of the present items. */
    private static final class Choices {
        /** The protected weights and profits. */
        final int[] weight;
        final int[] profit;
        /** The plain profits. */
        final int[] value;
        /** The items that a choice's items need, EXCLUDED if two of them exclude one another. */
        final int[] required;
        /** While a row is filled: the choice whose items stand at the places of a mask in order. */
        private final int[] names;
        private final int[] order;
        private final int[] deviations;
        private int size;
        /** How many choices there are. */
        int end;
        /** Whether the rows tell the present state with its own settings. */
        boolean ready;

        Choices() {
            weight = new int[MOST_CHOICES];
            profit = new int[MOST_CHOICES];
            value = new int[MOST_CHOICES];
            required = new int[MOST_CHOICES];
            names = new int[MOST_CHOICES];
            order = new int[MOST_ITEMS];
            deviations = new int[MOST_ITEMS];
            size = 0;
            end = 1;
            ready = false;
        }

        void fill(State state, int g, int h) {
            size = state.size;
            end = 1 << size;
            fillProtected(weight, state.properties[WEIGHT], state.properties[WEIGHT_DEVIATION], 1, g);
            fillProtected(profit, state.properties[PROFIT], state.properties[PROFIT_DEVIATION], -1, h);
            sumUp(value, state.properties[PROFIT], size);
            fillRequired(state);
        }

        /** Fills the protected weights again, with a greater weight deviation of one item. */
        void fillWeights(State state, int g, int item, int increase) {
            System.arraycopy(state.properties[WEIGHT_DEVIATION], 0, deviations, 0, MOST_ITEMS);
            deviations[item] += increase;
            fillProtected(weight, state.properties[WEIGHT], deviations, 1, g);
        }

        /**
         * The items come in descending order of their changes, so that the last item of a choice is
         * the first one that the budget leaves out: each number follows from that of a smaller choice.
         */
        private void fillProtected(int[] row, int[] values, int[] changes, int sign, int budget) {
            sortByChange(changes);
            row[0] = 0;
            names[0] = 0;
            for (int place = 0; place < size; place++) {
                int item = order[place];
                int changed = values[item] + sign * changes[item];
                int bit = 1 << place;
                for (int rest = 0; rest < bit; rest++) {
                    int choice = names[rest] | 1 << item;
                    names[bit | rest] = choice;
                    row[choice] = row[names[rest]] + (Integer.bitCount(choice) <= budget ? changed : values[item]);
                }
            }
        }

        private void sortByChange(int[] changes) {
            for (int item = 0; item < size; item++) {
                int place = item;
                while (place > 0 && changes[order[place - 1]] < changes[item]) {
                    order[place] = order[place - 1];
                    place--;
                }
                order[place] = item;
            }
        }

        private void fillRequired(State state) {
            required[0] = 0;
            for (int item = 0; item < size; item++) {
                int bit = 1 << item;
                int rivals = state.rivals(item);
                for (int rest = 0; rest < bit; rest++) {
                    required[bit | rest] = (rest & rivals) != 0 ? EXCLUDED : required[rest] | state.needs[item];
                }
            }
        }

        /** EXCLUDED has all bits, so that no choice contains what it requires then. */
        boolean allows(int choice) {
            return (required[choice] & ~choice) == 0;
        }

        /** Whether a choice is allowed and fits. */
        boolean stands(int choice, int capacity) {
            return weight[choice] <= capacity && allows(choice);
        }

        /** The order in which best choices are chosen. */
        private boolean isBefore(int choice, int other) {
            if (profit[choice] != profit[other]) {
                return profit[choice] > profit[other];
            }
            if (weight[choice] != weight[other]) {
                return weight[choice] < weight[other];
            }
            return choice < other;
        }

        /** The best choice with all items of one set and none of another, NONE if there is none. */
        int first(int capacity, int with, int without) {
            int best = NONE;
            for (int choice = 0; choice < end; choice++) {
                boolean asked = (choice & with) == with && (choice & without) == 0;
                if (asked && stands(choice, capacity) && (best < 0 || isBefore(choice, best))) {
                    best = choice;
                }
            }
            return best;
        }

        /** The empty choice always stands, so that there is a best one. */
        int firstOfAll(int capacity) {
            return Math.max(first(capacity, 0, 0), 0);
        }

        /** The best one of a choice and those that are one step from it. */
        int firstNear(int present, int capacity) {
            int best = present;
            for (int item = 0; item < size; item++) {
                for (int other = item; other < size; other++) {
                    boolean exchange = ((present >> item ^ present >> other) & 1) == 1;
                    int near = present ^ (1 << item | 1 << other);
                    if ((item == other || exchange) && stands(near, capacity) && isBefore(near, best)) {
                        best = near;
                    }
                }
            }
            return best;
        }

        int fitting(int capacity) {
            int number = 0;
            for (int choice = 0; choice < end; choice++) {
                if (stands(choice, capacity)) {
                    number++;
                }
            }
            return number;
        }

        int shiftedProfit(int choice) {
            return choice < 0 ? NONE : profit[choice] + SHIFT;
        }
    }

    /** Choices in ascending order of protected weights, each with a greater profit than all before it. */
    private static final class Staircase {
        /** While it is built: the most profitable choice of each weight, -1 without one. Then the steps. */
        private final int[] steps;
        int length;

        Staircase() {
            steps = new int[MOST_CAPACITY + 1];
            length = 0;
        }

        void buildFrontier(Choices choices) {
            int top = clear(choices.weight[choices.end - 1], MOST_CAPACITY);
            for (int choice = 0; choice < choices.end; choice++) {
                if (choices.stands(choice, top)) {
                    offer(choice, choices.weight[choice], choices.profit);
                }
            }
            keepRising(top, choices.profit);
        }

        void buildList(Choices choices, int level, int capacity) {
            int end = 1 << level;
            int top = clear(choices.weight[end - 1], capacity);
            for (int choice = 0; choice < end; choice++) {
                if (choices.weight[choice] <= top) {
                    offer(choice, choices.weight[choice], choices.value);
                }
            }
            keepRising(top, choices.value);
        }

        /** No choice is heavier than the one with all items, so that higher weights need no look. */
        private int clear(int heaviest, int capacity) {
            int top = Math.min(Math.min(heaviest, capacity), MOST_CAPACITY);
            for (int weight = 0; weight <= top; weight++) {
                steps[weight] = -1;
            }
            return top;
        }

        /** Choices come in ascending order, so that of equal ones the least stays. */
        private void offer(int choice, int weight, int[] gains) {
            if (steps[weight] < 0 || gains[choice] > gains[steps[weight]]) {
                steps[weight] = choice;
            }
        }

        private void keepRising(int top, int[] gains) {
            length = 0;
            for (int weight = 0; weight <= top; weight++) {
                int choice = steps[weight];
                if (choice >= 0 && (length == 0 || gains[choice] > gains[steps[length - 1]])) {
                    steps[length] = choice;
                    length++;
                }
            }
        }

        int stepAt(int index) {
            return index >= 0 && index < length ? steps[index] : NONE;
        }

        /** The first step with at least some profit, NONE if there is none. */
        int firstWith(int[] gains, int profit) {
            for (int i = 0; i < length; i++) {
                if (gains[steps[i]] >= profit) {
                    return steps[i];
                }
            }
            return NONE;
        }
    }

    /** The rests of a choice that can be left when items are taken out of it, and the plain problems. */
    private static final class Recovery {
        /** The plain weights, and what all deviations add to them. */
        private final int[] plainWeight;
        private final int[] deviation;
        private final int[] rests;
        private final int[] weights;
        private int found;

        Recovery() {
            plainWeight = new int[MOST_CHOICES];
            deviation = new int[MOST_CHOICES];
            rests = new int[MOST_CHOICES];
            weights = new int[MOST_ITEMS];
            found = 0;
        }

        /** Finds the allowed rests of a choice after at most some items have been taken out. */
        void collect(Choices choices, State state, int items, int most) {
            sumUp(plainWeight, state.properties[WEIGHT], state.size);
            sumUp(deviation, state.properties[WEIGHT_DEVIATION], state.size);
            found = 0;
            for (int rest = 0; rest <= items; rest++) {
                boolean isPart = (rest & ~items) == 0;
                if (isPart && Integer.bitCount(items ^ rest) <= most && choices.allows(rest)) {
                    rests[found] = rest;
                    found++;
                }
            }
        }

        /** The greatest profit of a rest in a scenario, or one that is enough; NONE if no rest is light enough. */
        int profitIn(int scenario, int enough, int[] profits, int capacity) {
            int most = NONE;
            for (int i = 0; i < found && most < enough; i++) {
                int rest = rests[i];
                if (profits[rest] > most && plainWeight[rest] + deviation[rest & scenario] <= capacity) {
                    most = profits[rest];
                    // What stood in this scenario often stands in the next one, so it is looked at first there.
                    rests[i] = rests[0];
                    rests[0] = rest;
                }
            }
            return most;
        }

        int plainValue(Choices choices, State state, int threshold, int room) {
            for (int item = 0; item < state.size; item++) {
                int over = Math.max(state.properties[WEIGHT_DEVIATION][item] - threshold, 0);
                weights[item] = state.properties[WEIGHT][item] + over;
            }
            sumUp(plainWeight, weights, state.size);
            int most = 0;
            for (int choice = 0; choice < choices.end; choice++) {
                if (plainWeight[choice] <= room && choices.value[choice] > most && choices.allows(choice)) {
                    most = choices.value[choice];
                }
            }
            return most;
        }
    }
}
