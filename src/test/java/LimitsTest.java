/** The boundary cases of items, conditions, settings, history and counts: promises 1 to 8, 29 and 30. */
public final class LimitsTest extends Due {
    private static final int[] FAR = {LOW, LOW + 1, -1000, -2, 13, 32, 4096, 10000, HIGH - 1, HIGH};
    private static final int[] LEAST = {1, 1, 0, 0, -1};
    private static final int[] MOST = {999, 999, 999, 999, 3};

    // ---- promise 1

    /** "Creates a planner without items." Every call has an answer there, too. */
    private static void emptyPlanner() {
        RobustPacking x = new RobustPacking();
        int[] counts = {0, 1000, 0, 0, 0, 0, 0, 0};
        int[] ofChoice = {0, 0, 100000, 100000, 1, 1, 0, 0, 12};
        int[] ofBest = {0, 100000, 0, 1, 0, 0, 1};
        int[] ofStep = {0, 100000, 0};
        for (int what = 0; what < counts.length; what++) {
            due("empty: count(" + what + ")", x.count(what), counts[what]);
            due("empty: item(0, " + what + ")", x.item(0, what), NO_SUCH);
        }
        for (int what = 0; what < ofChoice.length; what++) {
            due("empty: choice(0, " + what + ")", x.choice(0, what), ofChoice[what]);
            due("empty: choice(1, " + what + ")", x.choice(1, what), NO_SUCH);
        }
        for (int what = 0; what < ofBest.length; what++) {
            due("empty: best(" + what + ")", x.best(what), ofBest[what]);
        }
        for (int what = 0; what < ofStep.length; what++) {
            due("empty: frontier(-1, " + what + ")", x.frontier(-1, what), 1);
            due("empty: frontier(0, " + what + ")", x.frontier(0, what), ofStep[what]);
            due("empty: frontier(1, " + what + ")", x.frontier(1, what), NONE);
        }
        due("empty: remove(0)", x.remove(0), NO_SUCH);
        due("empty: set(0, 0, 1)", x.set(0, 0, 1), NO_SUCH);
        due("empty: conflict(0, 1)", x.conflict(0, 1), NO_SUCH);
        due("empty: conflict(0, 0)", x.conflict(0, 0), NO_SUCH);
        due("empty: need(0, 1)", x.need(0, 1), NO_SUCH);
        due("empty: need(0, 0)", x.need(0, 0), NO_SUCH);
        due("empty: wipe()", x.wipe(), 0);
        due("empty: fault()", x.fault(), 0);
        due("empty: load()", x.load(), BAD_TEXT);
        due("empty: undo()", x.undo(), NOT_POSSIBLE);
    }

    private static void emptyPlannerAsked() {
        RobustPacking x = new RobustPacking();
        due("empty: weightIn(0, 0)", x.weightIn(0, 0), 0);
        due("empty: weightIn(0, 1)", x.weightIn(0, 1), NO_SUCH);
        due("empty: bestWith(0, 0, 0)", x.bestWith(0, 0, 0), 100000);
        due("empty: bestWith(9999, 12, 12)", x.bestWith(9999, 12, 12), 100000);
        due("empty: leastCapacity(0)", x.leastCapacity(0), 0);
        due("empty: leastCapacity(1)", x.leastCapacity(1), NONE);
        due("empty: headroom(0)", x.headroom(0), NO_SUCH);
        due("empty: greedy(0)", x.greedy(0), 0);
        due("empty: greedy(1)", x.greedy(1), 100000);
        due("empty: forced(0, 0, 0)", x.forced(0, 0, 0), 0);
        due("empty: forced(0, 0, 1)", x.forced(0, 0, 1), 100000);
        due("empty: forced(1, 0, 0)", x.forced(1, 0, 0), NO_SUCH);
        due("empty: improve(0, 0)", x.improve(0, 0), 0);
        due("empty: improve(0, 1)", x.improve(0, 1), 0);
        due("empty: improve(1, 0)", x.improve(1, 0), NO_SUCH);
        due("empty: list(0, -1)", x.list(0, -1), 1);
        due("empty: list(0, 0)", x.list(0, 0), 0);
        due("empty: list(0, 1)", x.list(0, 1), NONE);
        due("empty: list(1, 0)", x.list(1, 0), NO_SUCH);
        due("empty: dominator(0, 0)", x.dominator(0, 0), NONE);
        due("empty: dominator(0, 1)", x.dominator(0, 1), NO_SUCH);
        due("empty: threshold(-1)", x.threshold(-1), 1);
        due("empty: threshold(0)", x.threshold(0), 0);
        due("empty: threshold(1)", x.threshold(1), NONE);
        due("empty: plain(0)", x.plain(0), 0);
        due("empty: plain(1)", x.plain(1), NO_SUCH);
        due("empty: recovered(0, 0, 0)", x.recovered(0, 0, 0), 0);
        due("empty: recovered(0, 0, 12)", x.recovered(0, 0, 12), 0);
        due("empty: recovered(0, 1, 0)", x.recovered(0, 1, 0), NO_SUCH);
        due("empty: adversary(0, 12, 0)", x.adversary(0, 12, 0), 0);
        due("empty: adversary(0, 12, 1)", x.adversary(0, 12, 1), 0);
        due("empty: adversary(1, 0, 0)", x.adversary(1, 0, 0), NO_SUCH);
    }

    private static void plannersApart() {
        RobustPacking x = four();
        RobustPacking y = new RobustPacking();
        write(x, "1/1");
        due("apart: no items", y.count(0), 0);
        due("apart: first capacity", y.count(1), 1000);
        due("apart: no pad", y.count(6), 0);
        due("apart: no history", y.count(7), 0);
        due("apart: best(0)", y.best(0), 0);
        due("apart: best(0) of the other", x.best(0), 3);
    }

    // ---- promise 2

    /** "BAD_VALUE if an argument is out of range": each argument alone, the others in range. */
    private static void addRanges() {
        for (int place = 0; place < 4; place++) {
            RobustPacking x = new RobustPacking();
            due("add: one below, place " + place, addAt(x, place, LEAST[place] - 1), BAD_VALUE);
            due("add: one above, place " + place, addAt(x, place, MOST[place] + 1), BAD_VALUE);
            for (int far : FAR) {
                if (far < LEAST[place] || far > MOST[place]) {
                    due("add: " + far + ", place " + place, addAt(x, place, far), BAD_VALUE);
                }
            }
            due("add: none came", x.count(0), 0);
            due("add: none was kept", x.count(7), 0);
            due("add: the least, place " + place, addAt(x, place, LEAST[place]), 0);
            due("add: the most, place " + place, addAt(x, place, MOST[place]), 1);
            due("add: the least is there", x.item(0, place), LEAST[place]);
            due("add: the most is there", x.item(1, place), MOST[place]);
            for (int other = 0; other < 4; other++) {
                if (other != place) {
                    due("add: the place " + other + " beside " + place, x.item(1, other), 7 + other);
                }
            }
        }
    }

    private static int addAt(RobustPacking x, int place, int value) {
        int[] values = {7, 8, 9, 10};
        values[place] = value;
        return x.add(values[0], values[1], values[2], values[3]);
    }

    /** "TOO_MANY if there are 12 items", and a place is free again behind a removal. */
    private static void addToFull() {
        RobustPacking x = new RobustPacking();
        for (int i = 0; i < 12; i++) {
            due("full: add " + i, x.add(1 + i, 1, 0, 0), i);
        }
        due("full: a 13th", x.add(1, 1, 0, 0), TOO_MANY);
        due("full: twelve", x.count(0), 12);
        due("full: a bad 13th", x.add(1, 1, 0, 1000), BAD_VALUE);
        due("full: remove(0)", x.remove(0), 11);
        due("full: a place is free", x.add(99, 1, 0, 0), 11);
        due("full: it is the last", x.item(11, 0), 99);
        due("full: the others moved", x.item(10, 0), 12);
        due("full: a 13th again", x.add(1, 1, 0, 0), TOO_MANY);
        x.undo();
        due("full: undone", x.add(98, 1, 0, 0), 11);
    }

    /** "Adds an item without a group", also where one with a group and conditions was before. */
    private static void addWithoutTraces() {
        RobustPacking x = equalOnes(12);
        x.set(11, 4, 0);
        for (int other = 0; other < 11; other++) {
            x.conflict(11, other);
            x.need(11, other);
            x.need(other, 11);
        }
        due("traces: conflicts", x.item(11, 5), 2047);
        due("traces: needs", x.item(11, 6), 2047);
        due("traces: needed", x.item(11, 7), 2047);
        x.remove(11);
        due("traces: no pairs", x.count(4), 0);
        due("traces: no needs", x.count(5), 0);
        x.add(5, 2, 0, 0);
        int[] fresh = {5, 2, 0, 0, NONE, 0, 0, 0};
        for (int property = 0; property < 8; property++) {
            due("traces: property " + property, x.item(11, property), fresh[property]);
        }
    }

    // ---- promise 3

    private static void removeWhatIsNot() {
        RobustPacking x = four();
        for (int far : FAR) {
            due("remove(" + far + ")", x.remove(far), NO_SUCH);
        }
        due("remove: -1", x.remove(-1), NO_SUCH);
        due("remove: the first that is not", x.remove(4), NO_SUCH);
        due("remove: all are there", x.count(0), 4);
        due("remove: the last that is", x.remove(3), 3);
        due("remove: it is gone", x.remove(3), NO_SUCH);
        due("remove: the first", x.remove(0), 2);
        due("remove: B is the first", x.item(0, 0), 8);
        due("remove: then the rest", x.remove(1) + x.remove(0), 1);
        due("remove: none is left", x.remove(0), NO_SUCH);
        due("remove: the capacity stays", x.count(1), 12);
        due("remove: the budgets stay", x.count(2) + x.count(3), 2);
    }

    /**
     * "the numbers of those behind it decrease by 1, also in all conditions, and its own conditions are removed":
     * each item of a full planner in turn. Item k is in conflict with k + 3, and needs k + 5, both round the end.
     */
    private static void removeEach() {
        for (int gone = 0; gone < 12; gone++) {
            RobustPacking x = new RobustPacking();
            for (int i = 0; i < 12; i++) {
                x.add(100 + i, 200 + i, 300 + i, 400 + i);
                x.set(i, 4, i % 5 - 1);
            }
            for (int i = 0; i < 12; i++) {
                x.conflict(i, (i + 3) % 12);
                x.need(i, (i + 5) % 12);
            }
            due("each: remove(" + gone + ")", x.remove(gone), 11);
            for (int i = 0; i < 12; i++) {
                if (i != gone) {
                    checkMoved(x, i, gone);
                }
            }
            due("each: pairs without " + gone, x.count(4), 10);
            due("each: needs without " + gone, x.count(5), 10);
            due("each: item(11, 0)", x.item(11, 0), NO_SUCH);
            due("each: choice(2048, 0)", x.choice(2048, 0), NO_SUCH);
        }
    }

    private static void checkMoved(RobustPacking x, int before, int gone) {
        int now = before > gone ? before - 1 : before;
        int group = before % 5 - 1;
        int[] want = {100 + before, 200 + before, 300 + before, 400 + before, group < 0 ? NONE : group,
            bit((before + 3) % 12, gone) | bit((before + 9) % 12, gone), bit((before + 5) % 12, gone), bit((before + 7) % 12, gone)};
        for (int property = 0; property < 8; property++) {
            due("each: " + before + " without " + gone + ", property " + property, x.item(now, property), want[property]);
        }
    }

    private static int bit(int item, int gone) {
        return item == gone ? 0 : 1 << (item > gone ? item - 1 : item);
    }

    // ---- promises 4 and 5

    /** "value: within the range of the property; for GROUP 0 to 3, or -1 for none" */
    private static void setRanges() {
        RobustPacking x = four();
        int[] first = {10, 9, 1, 1, NONE};
        for (int property = 0; property < 5; property++) {
            due("set: one below, property " + property, x.set(3, property, LEAST[property] - 1), BAD_VALUE);
            due("set: one above, property " + property, x.set(3, property, MOST[property] + 1), BAD_VALUE);
            for (int far : FAR) {
                if (far < LEAST[property] || far > MOST[property]) {
                    due("set: " + far + ", property " + property, x.set(3, property, far), BAD_VALUE);
                }
            }
            due("set: nothing set, property " + property, x.item(3, property), first[property]);
            due("set: the most, property " + property, x.set(3, property, MOST[property]), first[property]);
            due("set: the least, property " + property, x.set(3, property, LEAST[property]), MOST[property]);
            int least = property == 4 ? NONE : LEAST[property];
            due("set: the least is there, property " + property, x.item(3, property), least);
            due("set: the least again, property " + property, x.set(3, property, LEAST[property]), least);
        }
        due("set: the neighbour stays", x.item(2, 0), 6);
    }

    private static void setWhatIsNot() {
        RobustPacking x = four();
        int kept = x.count(7);
        for (int far : FAR) {
            due("set(" + far + ", 0, 1)", x.set(far, 0, 1), NO_SUCH);
            due("set(0, " + far + ", 1)", x.set(0, far, 1), BAD_VALUE);
            due("item(" + far + ", 0)", x.item(far, 0), NO_SUCH);
            due("item(0, " + far + ")", x.item(0, far), BAD_VALUE);
        }
        for (int beside = -1; beside <= 4; beside += 5) {
            due("set(" + beside + ", 0, 1)", x.set(beside, 0, 1), NO_SUCH);
            due("item(" + beside + ", 0)", x.item(beside, 0), NO_SUCH);
            due("set(" + beside + ", 5, -9)", x.set(beside, 5, -9), NO_SUCH);
            due("item(" + beside + ", 8)", x.item(beside, 8), NO_SUCH);
        }
        // The sets of item() are no properties that can be set.
        for (int property = 5; property <= 8; property++) {
            due("set(0, " + property + ", 1)", x.set(0, property, 1), BAD_VALUE);
        }
        due("set(0, -1, 1)", x.set(0, -1, 1), BAD_VALUE);
        due("item(0, 7)", x.item(0, 7), 0);
        due("item(0, 8)", x.item(0, 8), BAD_VALUE);
        due("item(0, -1)", x.item(0, -1), BAD_VALUE);
        due("set: the history stays", x.count(7), kept);
    }

    private static void groups() {
        RobustPacking x = equalOnes(3);
        due("group: set(0, 4, -1)", x.set(0, 4, -1), NONE);
        due("group: set(0, 4, 0)", x.set(0, 4, 0), NONE);
        due("group: set(0, 4, 3)", x.set(0, 4, 3), 0);
        due("group: set(1, 4, 3)", x.set(1, 4, 3), NONE);
        due("group: 3 is one", x.choice(3, 4), 0);
        due("group: set(0, 4, 0) then", x.set(0, 4, 0), 3);
        due("group: two of them", x.choice(3, 4), 1);
        due("group: set(1, 4, 0)", x.set(1, 4, 0), 3);
        due("group: 0 is one", x.choice(3, 4), 0);
        due("group: with one beside", x.choice(5, 4), 1);
        due("group: all three", x.choice(7, 4), 0);
        due("group: set(0, 4, -1) then", x.set(0, 4, -1), 0);
        due("group: set(1, 4, -1)", x.set(1, 4, -1), 0);
        due("group: none is no group", x.choice(7, 4), 1);
    }

    // ---- promises 6 and 7

    private static void pairsThatAreNot() {
        RobustPacking x = four();
        int kept = x.count(7);
        for (int far : FAR) {
            due("conflict(" + far + ", 0)", x.conflict(far, 0), NO_SUCH);
            due("conflict(0, " + far + ")", x.conflict(0, far), NO_SUCH);
            due("conflict(" + far + ", " + far + ")", x.conflict(far, far), NO_SUCH);
            due("need(" + far + ", 0)", x.need(far, 0), NO_SUCH);
            due("need(0, " + far + ")", x.need(0, far), NO_SUCH);
            due("need(" + far + ", " + far + ")", x.need(far, far), NO_SUCH);
        }
        for (int beside = -1; beside <= 4; beside += 5) {
            due("conflict(" + beside + ", 3)", x.conflict(beside, 3), NO_SUCH);
            due("conflict(3, " + beside + ")", x.conflict(3, beside), NO_SUCH);
            due("need(" + beside + ", 3)", x.need(beside, 3), NO_SUCH);
            due("need(3, " + beside + ")", x.need(3, beside), NO_SUCH);
        }
        for (int item = 0; item < 4; item++) {
            due("conflict(" + item + ", " + item + ")", x.conflict(item, item), BAD_VALUE);
            due("need(" + item + ", " + item + ")", x.need(item, item), BAD_VALUE);
        }
        due("pairs: no conflict", x.count(4), 0);
        due("pairs: no need", x.count(5), 0);
        due("pairs: the history stays", x.count(7), kept);
    }

    /** All 66 pairs in conflict, and all 132 needs, of twelve items. */
    private static void allPairs() {
        RobustPacking x = equalOnes(12);
        RobustPacking y = equalOnes(12);
        for (int item = 0; item < 12; item++) {
            for (int other = 0; other < 12; other++) {
                if (item < other) {
                    due("all: conflict(" + item + ", " + other + ")", x.conflict(item, other), 1);
                }
                if (item != other) {
                    due("all: need(" + item + ", " + other + ")", y.need(item, other), 1);
                }
            }
        }
        due("all: pairs", x.count(4), 66);
        due("all: needs", y.count(5), 132);
        due("all: no needs", x.count(5), 0);
        due("all: no pairs", y.count(4), 0);
        for (int item = 0; item < 12; item++) {
            due("all: conflicts of " + item, x.item(item, 5), 4095 & ~(1 << item));
            due("all: needs of " + item, y.item(item, 6), 4095 & ~(1 << item));
            due("all: needed by " + item, y.item(item, 7), 4095 & ~(1 << item));
        }
        due("all: one at most", x.best(6), 13);
        due("all: all or none", y.best(6), 2);
        due("all: all", y.best(0), 4095);
        due("all: remove(5)", x.remove(5) + y.remove(5), 22);
        due("all: pairs then", x.count(4), 55);
        due("all: needs then", y.count(5), 110);
    }

    /** "a pair of items is one of these, both, or neither, and needs have a direction" */
    private static void bothConditions() {
        RobustPacking x = equalOnes(2);
        due("both: need(1, 0)", x.need(1, 0), 1);
        due("both: a direction", x.item(0, 6), 0);
        due("both: the other end", x.item(0, 7), 2);
        due("both: 1 alone", x.choice(2, 4), 0);
        due("both: 0 alone", x.choice(1, 4), 1);
        due("both: conflict(0, 1)", x.conflict(0, 1), 1);
        due("both: together", x.choice(3, 4), 0);
        due("both: 0 alone then", x.choice(1, 4), 1);
        due("both: need(0, 1)", x.need(0, 1), 1);
        due("both: only the empty one", x.best(6), 1);
        due("both: need(1, 0) ends", x.need(1, 0), 0);
        due("both: the other direction stays", x.item(0, 6), 2);
        due("both: conflict(1, 0) ends", x.conflict(1, 0), 0);
        due("both: the need stays", x.count(5), 1);
        due("both: together then", x.choice(3, 4), 1);
        due("both: conflict(1, 0) again", x.conflict(1, 0), 1);
        due("both: seen from 0", x.item(0, 5), 2);
    }

    /** "with each item it contains all items that this one needs": a chain, a ring, and two needs of one item. */
    private static void chains() {
        RobustPacking x = equalOnes(4);
        x.need(0, 1);
        x.need(1, 2);
        int[] allowed = {0, 4, 6, 7, 8, 12, 14, 15};
        for (int items = 0, at = 0; items < 16; items++) {
            boolean in = at < allowed.length && allowed[at] == items;
            at += in ? 1 : 0;
            due("chain: choice(" + items + ", 4)", x.choice(items, 4), in ? 1 : 0);
        }
        x.need(2, 0);
        due("ring: best(6)", x.best(6), 4);
        due("ring: all of it", x.choice(7, 4), 1);
        due("ring: a part", x.choice(6, 4), 0);
        RobustPacking y = equalOnes(3);
        y.need(0, 1);
        y.need(0, 2);
        due("two: one of both", y.choice(3, 4), 0);
        due("two: the other", y.choice(5, 4), 0);
        due("two: both", y.choice(7, 4), 1);
    }

    // ---- promise 8

    /** "The capacity is from 0 to 9999; 1000 at first. The weight budget G and the profit budget H are from 0 to 12; 0 at first." */
    private static void ruleRanges() {
        int[] most = {9999, 12, 12};
        int[] first = {1000, 0, 0};
        for (int setting = 0; setting < 3; setting++) {
            RobustPacking x = new RobustPacking();
            due("rule: one below, setting " + setting, x.rule(setting, -1), BAD_VALUE);
            due("rule: one above, setting " + setting, x.rule(setting, most[setting] + 1), BAD_VALUE);
            for (int far : FAR) {
                if (far < 0 || far > most[setting]) {
                    due("rule: " + far + ", setting " + setting, x.rule(setting, far), BAD_VALUE);
                }
            }
            due("rule: still the first", x.count(setting + 1), first[setting]);
            due("rule: none kept", x.count(7), 0);
            due("rule: one less than the most", x.rule(setting, most[setting] - 1), first[setting]);
            due("rule: the most", x.rule(setting, most[setting]), most[setting] - 1);
            due("rule: 0", x.rule(setting, 0), most[setting]);
            due("rule: 0 again", x.rule(setting, 0), 0);
            for (int other = 0; other < 3; other++) {
                due("rule: setting " + other + " beside " + setting, x.count(other + 1), other == setting ? 0 : first[other]);
            }
        }
        RobustPacking x = new RobustPacking();
        for (int far : FAR) {
            due("rule(" + far + ", 0)", x.rule(far, 0), BAD_VALUE);
        }
        due("rule(-1, 0)", x.rule(-1, 0), BAD_VALUE);
        due("rule(3, 0)", x.rule(3, 0), BAD_VALUE);
    }

    // ---- promise 29

    /** "NOT_POSSIBLE if there is none", at first and behind the last one. */
    private static void emptyHistory() {
        RobustPacking x = new RobustPacking();
        due("history: none", x.undo(), NOT_POSSIBLE);
        due("history: still none", x.undo(), NOT_POSSIBLE);
        x.rule(0, 5);
        due("history: one", x.count(7), 1);
        due("history: none is left", x.undo(), 0);
        due("history: the capacity is back", x.count(1), 1000);
        due("history: undo() is no call of it", x.count(7), 0);
        due("history: none again", x.undo(), NOT_POSSIBLE);
        due("history: nothing changed", x.count(1), 1000);
    }

    /** "A history of at most 12 such calls is kept: when one more is recorded, the oldest one is dropped". */
    private static void fullHistory() {
        for (int calls = 11; calls <= 26; calls++) {
            RobustPacking x = new RobustPacking();
            for (int i = 1; i <= calls; i++) {
                x.rule(0, 100 + i);
            }
            int kept = Math.min(calls, 12);
            due("history: kept of " + calls, x.count(7), kept);
            for (int i = 1; i <= kept; i++) {
                due("history: undo " + i + " of " + calls, x.undo(), kept - i);
                due("history: then", x.count(1), calls == i ? 1000 : 100 + calls - i);
            }
            due("history: no more of " + calls, x.undo(), NOT_POSSIBLE);
            due("history: the last capacity stays", x.count(1), calls > 12 ? 100 + calls - 12 : 1000);
        }
    }

    /** A part of a full history is undone and recorded anew, again and again. */
    private static void historyGoesRound() {
        RobustPacking x = new RobustPacking();
        int[] line = new int[200];
        int end = 0;
        int kept = 0;
        line[0] = 1000;
        for (int round = 0; round < 9; round++) {
            for (int i = 0; i < 7; i++) {
                end++;
                line[end] = 100 * round + i;
                x.rule(0, line[end]);
                kept = Math.min(kept + 1, 12);
                due("round: kept", x.count(7), kept);
            }
            for (int i = 0; i < round && kept > 0; i++) {
                end--;
                kept--;
                due("round: undo", x.undo(), kept);
                due("round: capacity", x.count(1), line[end]);
            }
        }
    }

    /** Each of the seven kinds of calls can be undone; those that fail, look, or write on the pad are not recorded. */
    private static void kindsOfCalls() {
        RobustPacking x = four();
        x.undo();
        x.undo();
        due("kinds: five", x.count(7), 5);
        due("kinds: add", x.add(1, 1, 1, 1) + x.count(7), 10);
        due("kinds: add undone", x.undo() * 100 + x.count(0), 504);
        due("kinds: remove", x.remove(1) + x.count(7), 9);
        due("kinds: remove undone", x.undo() * 100 + x.item(1, 0), 508);
        due("kinds: set", x.set(2, 4, 1) * 100 + x.count(7), 6 - 600);
        due("kinds: set undone", x.undo() * 100 + x.item(2, 4), 494);
        due("kinds: conflict", x.conflict(1, 2) + x.count(7), 7);
        due("kinds: conflict undone", x.undo() * 100 + x.item(2, 5), 500);
        due("kinds: need", x.need(1, 2) + x.count(7), 7);
        due("kinds: need undone", x.undo() * 100 + x.item(2, 7), 500);
        due("kinds: rule", x.rule(1, 3) + x.count(7), 6);
        due("kinds: rule undone", x.undo() * 100 + x.count(2), 500);
        write(x, "7/7;8/8");
        due("kinds: put is none", x.count(7), 5);
        due("kinds: load", x.load() + x.count(7), 8);
        due("kinds: load undone", x.undo() * 100 + x.count(0), 504);
        write(x, "7/7");
        due("kinds: wipe is none", x.wipe() + x.count(7), 8);
        due("kinds: fault is none", x.fault() + x.count(7), 5);
    }

    /** "items, conditions and settings become what they were before it": a condition that ended is there again. */
    private static void undoneConditions() {
        RobustPacking x = equalOnes(3);
        x.conflict(0, 2);
        x.need(2, 1);
        x.conflict(2, 0);
        x.need(2, 1);
        due("undone: ended", x.count(4) + x.count(5), 0);
        due("undone: need", x.undo(), 6);
        due("undone: it needs it", x.item(2, 6), 2);
        due("undone: conflict", x.undo(), 5);
        due("undone: one side", x.item(0, 5), 4);
        due("undone: the other side", x.item(2, 5), 1);
        x.set(2, 4, 3);
        x.remove(2);
        x.remove(0);
        x.remove(0);
        due("undone: all removed", x.count(0), 0);
        x.undo();
        x.undo();
        due("undone: remove(2)", x.undo(), 6);
        due("undone: its group", x.item(2, 4), 3);
        due("undone: its conflict", x.item(2, 5), 1);
        due("undone: its need", x.item(2, 6), 2);
        due("undone: its need, from there", x.item(1, 7), 4);
    }

    /** A call that sets what is there already did not fail, so it is one of the history. */
    private static void sameValues() {
        RobustPacking x = equalOnes(1);
        x.rule(0, 1000);
        due("same: rule", x.count(7), 2);
        x.set(0, 0, 5);
        due("same: set", x.count(7), 3);
        x.set(0, 4, -1);
        due("same: no group", x.count(7), 4);
        due("same: undone", x.undo() + x.undo() + x.undo(), 6);
        due("same: the item", x.count(0), 1);
    }

    /** The pad is no item, condition or setting: undo() of load() leaves it as it is. */
    private static void undoAndPad() {
        RobustPacking x = written("1/2;3/4");
        x.load();
        due("pad: undo()", x.undo(), 0);
        due("pad: no items", x.count(0), 0);
        due("pad: it stays empty", x.count(6), 0);
        due("pad: no text", x.load(), BAD_TEXT);
        write(x, "1/2");
        x.load();
        write(x, "5/6;7/8");
        due("pad: undo() behind a new text", x.undo(), 0);
        due("pad: the new text stays", x.count(6), 7);
        due("pad: it is loaded", x.load(), 2);
        due("pad: its items", x.item(0, 0), 5);
        RobustPacking y = equalOnes(1);
        write(y, "1/2");
        y.undo();
        due("pad: undo() of add()", y.count(6), 3);
        y.wipe();
        due("pad: wipe() is not undone", y.undo(), NOT_POSSIBLE);
    }

    // ---- promise 30

    private static void counts() {
        RobustPacking x = four();
        for (int far : FAR) {
            due("count(" + far + ")", x.count(far), BAD_VALUE);
        }
        due("count(-1)", x.count(-1), BAD_VALUE);
        due("count(8)", x.count(8), BAD_VALUE);
        due("count(0)", x.count(0), 4);
        due("count(7)", x.count(7), 7);
        RobustPacking y = alike(12, 1, 1, 0, 0);
        ruled(y, 9999, 12, 11);
        write(y, "abcdefgh".repeat(10));
        int[] full = {12, 9999, 12, 11, 0, 0, 80, 12};
        for (int what = 0; what < 8; what++) {
            due("count(" + what + ") of a full one", y.count(what), full[what]);
        }
    }

    /** "An object is used for at most 512 calls": the 512th is answered as the first. */
    private static void lastCall() {
        RobustPacking x = new RobustPacking();
        for (int i = 0; i < 255; i++) {
            due("calls: add", x.add(1 + i, 1, 0, 0), 0);
            due("calls: remove", x.remove(0), 0);
        }
        x.undo();
        due("calls: the 512th", x.item(0, 0), 255);
        RobustPacking y = equalOnes(12);
        for (int i = 0; i < 499; i++) {
            y.rule(0, i % 25);
        }
        // The last capacity is 498 % 25 = 23, for eleven items of the weight 2.
        due("calls: the 512th", y.best(1), 100055);
    }

    public static void main(String[] args) {
        emptyPlanner();
        emptyPlannerAsked();
        plannersApart();
        addRanges();
        addToFull();
        addWithoutTraces();
        removeWhatIsNot();
        removeEach();
        setRanges();
        setWhatIsNot();
        groups();
        pairsThatAreNot();
        allPairs();
        bothConditions();
        chains();
        ruleRanges();
        emptyHistory();
        fullHistory();
        historyGoesRound();
        kindsOfCalls();
        undoneConditions();
        sameValues();
        undoAndPad();
        counts();
        lastCall();
        end("all limits are as due");
    }
}
