/** The boundary cases of choices: promises 13 to 22. */
public final class ChoicesTest extends Due {
    private static final int[] FAR = {LOW, LOW + 1, -1000, -2, -1, 32, 4096, 1 << 30, HIGH - 1, HIGH};

    private static RobustPacking one(int profit, int weight, int weightDeviation, int profitDeviation) {
        return alike(1, profit, weight, weightDeviation, profitDeviation);
    }

    // ---- promise 13

    /** "NO_SUCH if the set contains an item that does not exist, or is negative; BAD_VALUE if what is out of range" */
    private static void choiceArguments() {
        for (int size = 0; size <= 12; size++) {
            RobustPacking x = equalOnes(size);
            int all = (1 << size) - 1;
            due("choice: all of " + size, x.choice(all, 0), 2 * size);
            due("choice: one more than " + size, x.choice(all + 1, 0), NO_SUCH);
            for (int item = size; item < 32; item++) {
                due("choice: item " + item + " of " + size, x.choice(1 << item, 0), NO_SUCH);
                due("choice: item " + item + " beside all", x.choice(1 << item | all, 0), NO_SUCH);
            }
        }
        RobustPacking x = four();
        for (int far : FAR) {
            due("choice(" + far + ", 0)", x.choice(far, 0), NO_SUCH);
            due("choice(" + far + ", 9)", x.choice(far, 9), NO_SUCH);
            due("choice(15, " + far + ")", x.choice(15, far), BAD_VALUE);
        }
        due("choice(15, 9)", x.choice(15, 9), BAD_VALUE);
        due("choice(15, 8)", x.choice(15, 8), NONE);
    }

    /** The greatest numbers that there can be, and profits far below 0. */
    private static void greatestNumbers() {
        RobustPacking x = ruled(alike(12, 1, 999, 999, 999), 9999, 12, 12);
        due("great: plain weight", x.choice(4095, 0), 11988);
        due("great: protected weight", x.choice(4095, 1), 23976);
        due("great: plain profit", x.choice(4095, 2), 100012);
        due("great: protected profit", x.choice(4095, 3), 88024);
        due("great: best(0)", x.best(0), 0);
        due("great: best(3)", x.best(3), 1);
        due("great: forced(31, 0, 1)", x.forced(31, 0, 1), 95010);
        due("great: forced(63, 0, 1)", x.forced(63, 0, 1), NONE);
        due("great: improve(31, 1)", x.improve(31, 1), 5);
        x.rule(1, 11);
        due("great: eleven deviate", x.choice(4095, 1), 22977);
        due("great: eleven are the worst", x.choice(4095, 6), 2047);
        x.rule(2, 1);
        due("great: one profit deviates", x.choice(4095, 3), 99013);
        x.rule(2, 0);
        due("great: none deviates", x.choice(4095, 3), 100012);
        RobustPacking y = ruled(alike(12, 999, 1, 0, 0), 12, 0, 0);
        due("great: plain profits", y.choice(4095, 2), 111988);
        due("great: best(1)", y.best(1), 111988);
        due("great: leastCapacity(11988)", y.leastCapacity(11988), 12);
        due("great: leastCapacity(11989)", y.leastCapacity(11989), NONE);
        due("great: leastCapacity(12000)", y.leastCapacity(12000), NONE);
        due("great: frontier(12, 1)", y.frontier(12, 1), 111988);
        due("great: plain(0)", y.plain(0), 11988);
        due("great: adversary(4095, 0, 0)", y.adversary(4095, 0, 0), 11988);
        due("great: recovered(4095, 0, 0)", y.recovered(4095, 0, 0), 11988);
    }

    /** "A choice fits if its protected weight is at most the capacity." */
    private static void justFits() {
        RobustPacking x = ruled(one(5, 10, 7, 0), 10, 0, 0);
        due("fits: plain, just", x.choice(1, 5), 1);
        x.rule(0, 9);
        due("fits: plain, not", x.choice(1, 5), 0);
        x.rule(1, 1);
        x.rule(0, 17);
        due("fits: protected, just", x.choice(1, 5), 1);
        due("fits: best", x.best(0), 1);
        x.rule(0, 16);
        due("fits: protected, not", x.choice(1, 5), 0);
        due("fits: not the best", x.best(0), 0);
        x.rule(0, 0);
        due("fits: the empty choice", x.choice(0, 5), 1);
        RobustPacking y = ruled(alike(11, 1, 909, 0, 0), 9999, 12, 0);
        due("fits: 9999", y.choice(2047, 5), 1);
        y.set(0, 2, 1);
        due("fits: 10000", y.choice(2047, 5), 0);
        due("fits: 9999 in a scenario without it", y.choice(2046, 5), 1);
    }

    /** "the one with the fewest items, and of several the one that is least as a number; the worst profit scenario likewise" */
    private static void worstScenarios() {
        int[][] deviations = {{0, 5, 0, 0}, {5, 5, 5, 5}, {1, 2, 2, 3}, {0, 0, 0, 0}, {4, 3, 2, 1}, {7, 0, 7, 7}};
        int[][] worst = {{0, 2, 2, 2, 2}, {0, 1, 3, 7, 15}, {0, 8, 10, 14, 15}, {0, 0, 0, 0, 0}, {0, 1, 3, 7, 15}, {0, 1, 5, 13, 13}};
        int[][] ofSix = {{0, 2, 2, 2, 2}, {0, 2, 6, 6, 6}, {0, 2, 6, 6, 6}, {0, 0, 0, 0, 0}, {0, 2, 6, 6, 6}, {0, 4, 4, 4, 4}};
        for (int i = 0; i < deviations.length; i++) {
            RobustPacking x = new RobustPacking();
            RobustPacking y = new RobustPacking();
            for (int item = 0; item < 4; item++) {
                x.add(9, 9, deviations[i][item], 0);
                y.add(9, 9, 0, deviations[i][item]);
            }
            for (int budget = 0; budget <= 12; budget++) {
                x.rule(1, budget);
                y.rule(2, budget);
                int at = Math.min(budget, 4);
                due("worst: " + i + ", G " + budget, x.choice(15, 6), worst[i][at]);
                due("worst: " + i + ", G " + budget + ", two", x.choice(6, 6), ofSix[i][at]);
                due("worst: " + i + ", H " + budget, y.choice(15, 7), worst[i][at]);
                due("worst: " + i + ", H " + budget + ", two", y.choice(6, 7), ofSix[i][at]);
                due("worst: G has no part in profits", y.choice(15, 6) + x.choice(15, 7), 0);
                due("worst: none of the empty choice", x.choice(0, 6) + y.choice(0, 7), 0);
                due("worst: " + i + ", its weight", x.choice(15, 1), x.weightIn(15, worst[i][at]));
            }
        }
    }

    /** "the greatest G for which it would fit (NONE if it does not fit with G = 0; 12 if it always fits)" */
    private static void greatestBudgets() {
        RobustPacking x = new RobustPacking();
        x.add(1, 10, 5, 0);
        x.add(1, 10, 3, 0);
        x.add(1, 10, 0, 0);
        int[] capacities = {0, 29, 30, 34, 35, 37, 38, 9999};
        int[] answers = {NONE, NONE, 0, 0, 1, 1, 12, 12};
        for (int g = 0; g <= 12; g += 6) {
            x.rule(1, g);
            for (int i = 0; i < capacities.length; i++) {
                x.rule(0, capacities[i]);
                due("budget: capacity " + capacities[i] + ", G " + g, x.choice(7, 8), answers[i]);
                due("budget: the empty choice", x.choice(0, 8), 12);
            }
        }
        RobustPacking y = alike(12, 1, 1, 1, 0);
        for (int g = 0; g <= 12; g++) {
            y.rule(0, 12 + g);
            due("budget: " + g + " of twelve", y.choice(4095, 8), g);
        }
        y.rule(0, 11);
        due("budget: not even 0 of twelve", y.choice(4095, 8), NONE);
        y.rule(0, 21);
        due("budget: always for ten", y.choice(1023, 8), 12);
        due("budget: 10 for eleven", y.choice(2047, 8), 10);
        RobustPacking z = ruled(one(1, 10, 0, 0), 10, 0, 0);
        due("budget: no deviation, just", z.choice(1, 8), 12);
        z.rule(0, 9);
        due("budget: no deviation, not", z.choice(1, 8), NONE);
    }

    // ---- promise 14

    /** "NOT_POSSIBLE if the scenario has more than G items (those that are not in the choice count, too)" */
    private static void weightScenarios() {
        RobustPacking x = new RobustPacking();
        for (int i = 0; i < 12; i++) {
            x.add(1, 1 << Math.min(i, 9), 1, 0);
        }
        for (int g = 0; g <= 12; g++) {
            x.rule(1, g);
            int most = (1 << g) - 1;
            due("scenario: just " + g, x.weightIn(4095, most), 1023 + 1024 + g);
            due("scenario: outside of the empty choice", x.weightIn(0, most), 0);
            if (g < 12) {
                due("scenario: more than " + g, x.weightIn(4095, 2 * most + 1), NOT_POSSIBLE);
                due("scenario: more than " + g + ", outside", x.weightIn(0, 2 * most + 1), NOT_POSSIBLE);
            }
        }
        due("scenario: without effect", x.weightIn(1, 4094), 1);
        due("scenario: with effect", x.weightIn(2048, 4095), 513);
        due("scenario: weightIn(4096, 0)", x.weightIn(4096, 0), NO_SUCH);
        due("scenario: weightIn(0, 4096)", x.weightIn(0, 4096), NO_SUCH);
        x.rule(1, 0);
        for (int far : FAR) {
            if (far == 32) {
                continue;
            }
            due("weightIn(" + far + ", 0)", x.weightIn(far, 0), NO_SUCH);
            due("weightIn(0, " + far + ")", x.weightIn(0, far), NO_SUCH);
            due("weightIn(" + far + ", 4095)", x.weightIn(far, 4095), NO_SUCH);
        }
        due("scenario: too many of the choice, and no choice", x.weightIn(-1, 1), NO_SUCH);
        due("scenario: one with G 0", x.weightIn(1, 1), NOT_POSSIBLE);
        due("scenario: none with G 0", x.weightIn(1, 0), 1);
    }

    // ---- promise 15

    private static void bestOfEqualOnes() {
        RobustPacking x = equalOnes(12);
        int[] capacities = {0, 1, 2, 12, 13, 23, 24, 25};
        int[][] answers = {{0, 100000, 0, 1, 0, 4095, 1}, {0, 100000, 0, 1, 0, 4095, 1}, {1, 100005, 2, 12, 0, 0, 13},
            {63, 100030, 12, 924, 0, 0, 2510}, {63, 100030, 12, 924, 0, 0, 2510}, {2047, 100055, 22, 12, 0, 0, 4095},
            {4095, 100060, 24, 1, 4095, 0, 4096}, {4095, 100060, 24, 1, 4095, 0, 4096}};
        for (int i = 0; i < capacities.length; i++) {
            x.rule(0, capacities[i]);
            for (int what = 0; what < 7; what++) {
                due("equal: capacity " + capacities[i] + ", best(" + what + ")", x.best(what), answers[i][what]);
            }
        }
        for (int far : FAR) {
            due("best(" + far + ")", x.best(far), BAD_VALUE);
        }
        due("best(7)", x.best(7), BAD_VALUE);
    }

    /** "the greatest protected profit; of several, the one with the least protected weight; of several, .. least as a number" */
    private static void orderOfBestOnes() {
        RobustPacking x = ruled(new RobustPacking(), 9999, 1, 1);
        x.add(9, 1, 0, 8);
        x.add(5, 1, 0, 0);
        x.conflict(0, 1);
        due("order: the protected profit", x.best(0), 2);
        x.set(0, 3, 3);
        due("order: greater by one", x.best(0), 1);
        x.set(0, 3, 4);
        due("order: the same in all", x.best(0), 1);
        due("order: both are best", x.best(3), 2);
        due("order: none is in both", x.best(4), 0);
        due("order: none is in neither", x.best(5), 0);
        x.set(0, 2, 1);
        due("order: the protected weight", x.best(0), 2);
        x.set(1, 1, 2);
        due("order: the plain weight has no part", x.best(0), 1);
        x.rule(2, 0);
        due("order: the plain profit with H 0", x.best(0), 1);
        x.rule(2, 1);
        x.set(0, 3, 9);
        x.set(1, 3, 5);
        due("order: rather empty", x.best(0), 0);
        due("order: three are best", x.best(3), 3);
        x.rule(0, 0);
        due("order: one is left", x.best(3), 1);
        due("order: both items are in none", x.best(5), 3);
    }

    // ---- promise 16

    private static void otherSettings() {
        RobustPacking x = ruled(four(), 0, 0, 0);
        int[][] good = {{0, 0, 0, 0}, {0, 12, 12, 0}, {9999, 0, 0, 34}, {9999, 12, 12, 23}, {12, 1, 1, 14}, {11, 1, 1, 10},
            {14, 1, 1, 14}, {15, 1, 1, 18}, {23, 1, 1, 24}, {24, 1, 1, 28}, {12, 1, 0, 18}, {12, 0, 1, 18}, {2, 0, 0, 0}, {3, 0, 0, 6},
            {9999, 12, 1, 28}, {9999, 0, 12, 23}, {28, 12, 0, 34}, {27, 12, 0, 28}};
        for (int[] a : good) {
            due("bestWith(" + a[0] + ", " + a[1] + ", " + a[2] + ")", x.bestWith(a[0], a[1], a[2]), 100000 + a[3]);
        }
        due("bestWith: the capacity stays", x.count(1), 0);
        due("bestWith: the budgets stay", x.count(2) + x.count(3), 0);
        due("bestWith: the best one stays", x.best(0), 0);
        due("bestWith: what fits stays", x.best(6), 1);
        int[][] bad = {{-1, 0, 0}, {10000, 0, 0}, {0, -1, 0}, {0, 13, 0}, {0, 0, -1}, {0, 0, 13}, {-1, 13, 13}};
        for (int[] a : bad) {
            due("bestWith(" + a[0] + ", " + a[1] + ", " + a[2] + ")", x.bestWith(a[0], a[1], a[2]), BAD_VALUE);
        }
        for (int far : FAR) {
            if (far != 32 && far != 4096) {
                due("bestWith(" + far + ", 0, 0)", x.bestWith(far, 0, 0), BAD_VALUE);
            }
            due("bestWith(0, " + far + ", 0)", x.bestWith(0, far, 0), BAD_VALUE);
            due("bestWith(0, 0, " + far + ")", x.bestWith(0, 0, far), BAD_VALUE);
        }
    }

    // ---- promise 17

    private static void leastCapacities() {
        RobustPacking x = ruled(four(), 0, 1, 1);
        due("least: the present capacity has no part", x.leastCapacity(28), 24);
        due("least: 0", x.leastCapacity(0), 0);
        due("least: just not", x.leastCapacity(29), NONE);
        due("least: 12000", x.leastCapacity(12000), NONE);
        for (int far : FAR) {
            if (far != 32 && far != 4096) {
                due("leastCapacity(" + far + ")", x.leastCapacity(far), BAD_VALUE);
            }
        }
        due("least: 12001", x.leastCapacity(12001), BAD_VALUE);
        x.rule(1, 12);
        due("least: all deviate", x.leastCapacity(28), 28);
        x.rule(2, 12);
        due("least: all profits deviate", x.leastCapacity(28), NONE);
        due("least: just that", x.leastCapacity(23), 25);
        RobustPacking y = ruled(one(5, 1, 0, 9), 1000, 0, 1);
        due("least: the empty choice has 0", y.leastCapacity(0), 0);
        due("least: a loss", y.leastCapacity(1), NONE);
        RobustPacking z = alike(11, 1, 909, 0, 0);
        due("least: 9999", z.leastCapacity(11), 9999);
        z.set(10, 2, 1);
        due("least: without a budget", z.leastCapacity(11), 9999);
        z.rule(1, 1);
        due("least: 10000", z.leastCapacity(11), NONE);
        due("least: ten", z.leastCapacity(10), 9090);
    }

    // ---- promise 18

    private static void headroomOfOne() {
        RobustPacking x = ruled(one(5, 10, 0, 0), 10, 1, 0);
        int[] capacities = {10, 11, 12, 73, 74, 137, 521, 522, 523, 1008, 1009, 1010, 9999};
        for (int capacity : capacities) {
            x.rule(0, capacity);
            due("room: capacity " + capacity, x.headroom(0), Math.min(capacity - 10, 999));
        }
        x.rule(0, 9);
        due("room: not in the best one", x.headroom(0), 999);
        x.rule(0, 10);
        x.rule(1, 0);
        due("room: no budget", x.headroom(0), 999);
        x.rule(1, 12);
        x.rule(0, 9999);
        int[] deviations = {0, 1, 500, 997, 998, 999};
        for (int deviation : deviations) {
            x.set(0, 2, deviation);
            due("room: behind " + deviation, x.headroom(0), 999 - deviation);
        }
        x.set(0, 2, 998);
        x.rule(0, 1008);
        due("room: none behind 998", x.headroom(0), 0);
        x.rule(0, 1009);
        due("room: one behind 998", x.headroom(0), 1);
        x.rule(0, 5);
        due("room: 998, not in the best one", x.headroom(0), 1);
        for (int far : FAR) {
            due("headroom(" + far + ")", x.headroom(far), NO_SUCH);
        }
        due("headroom(1)", x.headroom(1), NO_SUCH);
    }

    private static void headroomBesideOthers() {
        RobustPacking x = ruled(alike(2, 5, 10, 0, 0), 30, 1, 0);
        x.set(1, 2, 7);
        due("room: up to the capacity", x.headroom(0), 10);
        due("room: what is there counts", x.headroom(1), 3);
        x.rule(1, 2);
        due("room: both deviate", x.headroom(0), 3);
        due("room: both deviate, the other", x.headroom(1), 3);
        RobustPacking y = ruled(alike(2, 5, 4, 0, 0), 1000, 1, 0);
        y.conflict(0, 1);
        y.set(1, 1, 6);
        due("room: as light, the lower number stays", y.headroom(0), 2);
        due("room: the other one is not in it", y.headroom(1), 999);
        y.set(0, 1, 8);
        due("room: as light, the lower number comes", y.headroom(1), 1);
        RobustPacking z = ruled(one(5, 1, 3, 9), 1000, 1, 1);
        due("room: the empty choice stays best", z.headroom(0), 996);
        // Item 0 is in both choices that have the greatest profit.
        RobustPacking w = ruled(alike(3, 5, 4, 0, 0), 2000, 1, 0);
        w.conflict(1, 2);
        due("room: in every best one", w.headroom(0), 999);
        w.rule(0, 8);
        due("room: no room", w.headroom(0), 0);
        due("room: nothing has changed", w.item(0, 2) + w.choice(1, 1), 4);
        w.rule(0, 9);
        due("room: one", w.headroom(0), 1);
    }

    // ---- promise 19

    private static void greedyOrder() {
        RobustPacking x = new RobustPacking();
        x.add(1, 999, 999, 0);
        x.add(1, 998, 999, 0);
        x.rule(0, 999);
        due("greedy: 1/1997 is more than 1/1998", x.greedy(0), 2);
        x.set(0, 2, 998);
        due("greedy: equal fractions", x.greedy(0), 1);
        RobustPacking y = new RobustPacking();
        y.add(999, 998, 999, 0);
        y.add(998, 996, 999, 0);
        due("greedy: 998/1995 is more than 999/1997", y.greedy(0), 2);
        RobustPacking z = ruled(new RobustPacking(), 4, 0, 0);
        z.add(1, 2, 0, 0);
        z.add(2, 4, 0, 0);
        due("greedy: of 1/2 and 2/4 the first", z.greedy(0), 1);
        z.set(1, 0, 3);
        due("greedy: 3/4 is more", z.greedy(0), 2);
        z.set(1, 2, 1);
        due("greedy: 3/5 is more, with G 0 too", z.greedy(0), 2);
        z.set(1, 2, 2);
        due("greedy: 3/6 is not", z.greedy(0), 1);
        z.rule(0, 6);
        due("greedy: both fit", z.greedy(0), 3);
        for (int far : FAR) {
            due("greedy(" + far + ")", z.greedy(far), BAD_VALUE);
        }
        due("greedy(2)", z.greedy(2), BAD_VALUE);
    }

    /** "an item is added if the choice is then allowed and fits" */
    private static void greedySteps() {
        RobustPacking x = ruled(new RobustPacking(), 5, 1, 0);
        x.add(99, 6, 0, 0);
        x.add(5, 5, 0, 0);
        x.add(1, 5, 0, 0);
        due("greedy: what does not fit is passed over", x.greedy(0), 2);
        x.set(1, 2, 1);
        due("greedy: it has to fit in every scenario", x.greedy(0), 4);
        x.rule(0, 4);
        due("greedy: nothing fits", x.greedy(0), 0);
        due("greedy: the profit of nothing", x.greedy(1), 100000);
        x.rule(0, 100);
        due("greedy: all", x.greedy(0), 7);
        x.need(0, 2);
        due("greedy: a need that comes later", x.greedy(0), 6);
        x.need(0, 2);
        x.need(2, 0);
        due("greedy: a need that was there", x.greedy(0), 7);
        x.conflict(0, 1);
        due("greedy: a conflict with what is there", x.greedy(0), 5);
        x.conflict(0, 1);
        x.set(0, 4, 0);
        x.set(1, 4, 0);
        due("greedy: one of a group", x.greedy(0), 5);
        RobustPacking y = ruled(one(5, 1, 0, 9), 1, 0, 1);
        due("greedy: a loss is added, too", y.greedy(0), 1);
        due("greedy: its profit", y.greedy(1), 99996);
        due("greedy: all of twelve", alike(12, 1, 1, 1, 0).greedy(0), 4095);
    }

    // ---- promise 20

    private static void forcedSets() {
        RobustPacking x = four();
        for (int far : FAR) {
            due("forced(" + far + ", 0, 0)", x.forced(far, 0, 0), NO_SUCH);
            due("forced(0, " + far + ", 0)", x.forced(0, far, 0), NO_SUCH);
            due("forced(" + far + ", " + far + ", 2)", x.forced(far, far, 2), NO_SUCH);
            due("forced(0, 0, " + far + ")", x.forced(0, 0, far), BAD_VALUE);
        }
        due("forced(16, 0, 0)", x.forced(16, 0, 0), NO_SUCH);
        due("forced(0, 16, 0)", x.forced(0, 16, 0), NO_SUCH);
        due("forced(0, 0, 2)", x.forced(0, 0, 2), BAD_VALUE);
        due("forced(15, 15, 2)", x.forced(15, 15, 2), BAD_VALUE);
        due("forced(15, 15, 0)", x.forced(15, 15, 0), NOT_POSSIBLE);
        due("forced(15, 8, 1)", x.forced(15, 8, 1), NOT_POSSIBLE);
        due("forced(7, 8, 0)", x.forced(7, 8, 0), NONE);
        due("forced(7, 8, 1)", x.forced(7, 8, 1), NONE);
        x.rule(0, 15);
        due("forced(7, 8, 0), just fits", x.forced(7, 8, 0), 7);
        due("forced(7, 8, 1), just fits", x.forced(7, 8, 1), 100018);
        due("forced(15, 0, 0)", x.forced(15, 0, 0), NONE);
        x.rule(0, 24);
        due("forced(15, 0, 0), just fits", x.forced(15, 0, 0), 15);
        due("forced(0, 15, 0)", x.forced(0, 15, 0), 0);
        due("forced(0, 15, 1)", x.forced(0, 15, 1), 100000);
        x.conflict(0, 1);
        due("forced: a conflict", x.forced(3, 0, 0), NONE);
        due("forced: one of both", x.forced(2, 0, 0), 14);
        RobustPacking y = ruled(one(5, 1, 0, 9), 1, 0, 1);
        due("forced: a loss", y.forced(1, 0, 1), 99996);
        due("forced: none has to be", y.forced(0, 0, 1), 100000);
        RobustPacking z = equalOnes(3);
        z.rule(0, 2);
        due("forced: the last", z.forced(4, 0, 0), 4);
        due("forced: without the first", z.forced(0, 1, 0), 2);
    }

    // ---- promise 21

    private static void frontierEnds() {
        RobustPacking x = ruled(alike(11, 1, 909, 0, 0), 0, 0, 0);
        due("frontier: up to 9999", x.frontier(-1, 0), 12);
        due("frontier: its last capacity", x.frontier(11, 0), 9999);
        due("frontier: its last profit", x.frontier(11, 1), 100011);
        due("frontier: its last choice", x.frontier(11, 2), 2047);
        due("frontier: behind it", x.frontier(12, 0), NONE);
        x.set(0, 1, 910);
        due("frontier: 10000 is no capacity", x.frontier(-1, 1), 11);
        due("frontier: the last one then", x.frontier(10, 0), 9090);
        due("frontier: its choice", x.frontier(10, 2), 2046);
        due("frontier: the first one", x.frontier(0, 0), 0);
        due("frontier: its profit", x.frontier(0, 1), 100000);
        due("frontier: its choice is empty", x.frontier(0, 2), 0);
        for (int far : FAR) {
            if (far != -1) {
                due("frontier(" + far + ", 0)", x.frontier(far, 0), NONE);
            }
            due("frontier(0, " + far + ")", x.frontier(0, far), BAD_VALUE);
            due("frontier(-1, " + far + ")", x.frontier(-1, far), BAD_VALUE);
            due("frontier(" + far + ", 3)", x.frontier(far, 3), BAD_VALUE);
        }
        for (int what = 0; what < 3; what++) {
            due("frontier(-1, " + what + ")", x.frontier(-1, what), 11);
            due("frontier(-2, " + what + ")", x.frontier(-2, what), NONE);
            due("frontier(11, " + what + ")", x.frontier(11, what), NONE);
        }
        x.add(1, 999, 0, 0);
        due("frontier: all items are heavier than 9999", x.frontier(10, 0), 9090);
    }

    /** "with which the protected profit of the best choice is greater than with a capacity that is 1 less" */
    private static void frontierSteps() {
        RobustPacking x = ruled(new RobustPacking(), 0, 1, 1);
        x.add(5, 1, 0, 9);
        due("frontier: a loss is no step", x.frontier(-1, 0), 1);
        x.set(0, 3, 5);
        due("frontier: no gain is no step", x.frontier(-1, 0), 1);
        x.set(0, 3, 4);
        due("frontier: a gain is one", x.frontier(-1, 0), 2);
        due("frontier: its profit", x.frontier(1, 1), 100001);
        x.set(0, 2, 3);
        due("frontier: the protected weight", x.frontier(1, 0), 4);
        x.add(5, 5, 0, 4);
        x.conflict(0, 1);
        due("frontier: as much for more is no step", x.frontier(-1, 0), 2);
        x.set(1, 1, 4);
        due("frontier: as heavy, the lower number", x.frontier(1, 2), 1);
        x.set(1, 0, 6);
        due("frontier: as heavy, more profit", x.frontier(1, 2), 2);
        due("frontier: one step for both", x.frontier(-1, 0), 2);
        x.set(1, 1, 5);
        due("frontier: one more is the next capacity", x.frontier(2, 0), 5);
        x.set(1, 1, 3);
        due("frontier: lighter, and more", x.frontier(-1, 0), 2);
        due("frontier: its capacity", x.frontier(1, 0), 3);
        RobustPacking y = alike(12, 1, 1, 0, 0);
        due("frontier: thirteen", y.frontier(-1, 0), 13);
        due("frontier: the least number", y.frontier(5, 2), 31);
    }

    // ---- promise 22

    private static void improveArguments() {
        RobustPacking x = four();
        for (int far : FAR) {
            due("improve(" + far + ", 0)", x.improve(far, 0), NO_SUCH);
            due("improve(" + far + ", 2)", x.improve(far, 2), NO_SUCH);
            due("improve(0, " + far + ")", x.improve(0, far), BAD_VALUE);
            due("improve(15, " + far + ")", x.improve(15, far), BAD_VALUE);
        }
        due("improve(16, 0)", x.improve(16, 0), NO_SUCH);
        due("improve(0, 2)", x.improve(0, 2), BAD_VALUE);
        due("improve(12, 0), too heavy by 1", x.improve(12, 0), NOT_POSSIBLE);
        x.rule(0, 13);
        due("improve(12, 0), just fits", x.improve(12, 0), 3);
        x.need(2, 3);
        due("improve(4, 0), not allowed", x.improve(4, 0), NOT_POSSIBLE);
        due("improve(4, 1), not allowed", x.improve(4, 1), NOT_POSSIBLE);
        due("improve(12, 0), C cannot stay alone", x.improve(12, 0), 12);
        due("improve(12, 1), C cannot stay alone", x.improve(12, 1), 0);
        x.rule(0, 0);
        due("improve(0, 0), nothing fits", x.improve(0, 0), 0);
        due("improve(0, 1), nothing fits", x.improve(0, 1), 0);
        due("improve(1, 0), nothing fits", x.improve(1, 0), NOT_POSSIBLE);
    }

    private static void improveSteps() {
        RobustPacking x = ruled(new RobustPacking(), 10, 0, 0);
        x.add(10, 10, 0, 0);
        x.add(6, 5, 0, 0);
        x.add(6, 5, 0, 0);
        due("improve: no step leads on", x.improve(1, 0), 1);
        due("improve: no step was taken", x.improve(1, 1), 0);
        due("improve: the best one is elsewhere", x.best(0), 6);
        due("improve: the first step is the best", x.improve(0, 0), 1);
        due("improve: one step", x.improve(0, 1), 1);
        due("improve: adding is better than exchanging", x.improve(2, 0), 6);
        due("improve: adding once", x.improve(2, 1), 1);
        x.conflict(1, 2);
        due("improve: exchanging", x.improve(2, 0), 1);
        due("improve: only allowed ones", x.improve(4, 0), 1);
        x.conflict(0, 1);
        x.set(0, 0, 6);
        due("improve: as much, lighter", x.improve(1, 0), 2);
        x.set(0, 1, 5);
        due("improve: two of three", x.improve(4, 0), 5);
        x.rule(0, 5);
        due("improve: as much, as heavy, a lower number", x.improve(4, 0), 1);
        due("improve: in one step", x.improve(4, 1), 1);
        due("improve: nothing comes before it", x.improve(1, 1), 0);
        RobustPacking y = ruled(one(9, 1, 0, 9), 1, 0, 1);
        due("improve: no gain is taken out", y.improve(1, 0), 0);
        due("improve: in one step", y.improve(1, 1), 1);
        due("improve: and not added", y.improve(0, 1), 0);
        RobustPacking z = alike(12, 1, 1, 0, 0);
        due("improve: twelve steps", z.improve(0, 1), 12);
        due("improve: to all", z.improve(0, 0), 4095);
        z.rule(0, 6);
        due("improve: six steps", z.improve(0, 1), 6);
        due("improve: the lowest six", z.improve(0, 0), 63);
        due("improve: six exchanges", z.improve(4032, 1), 6);
        due("improve: to the lowest six", z.improve(4032, 0), 63);
    }

    public static void main(String[] args) {
        choiceArguments();
        greatestNumbers();
        justFits();
        worstScenarios();
        greatestBudgets();
        weightScenarios();
        bestOfEqualOnes();
        orderOfBestOnes();
        otherSettings();
        leastCapacities();
        headroomOfOne();
        headroomBesideOthers();
        greedyOrder();
        greedySteps();
        forcedSets();
        frontierEnds();
        frontierSteps();
        improveArguments();
        improveSteps();
        end("all choices are as due");
    }
}
