import java.util.Random;

/** The boundary cases of dominance lists, thresholds and recovery: promises 23 to 28. */
public final class ListsTest extends Due {
    private static final int[] FAR = {LOW, LOW + 1, -1000, -2, 32, 4096, 1 << 30, HIGH - 1, HIGH};

    private static RobustPacking pair(int profit, int weight, int otherProfit, int otherWeight) {
        RobustPacking x = new RobustPacking();
        x.add(profit, weight, 0, 0);
        x.add(otherProfit, otherWeight, 0, 0);
        return x;
    }

    private static void list(String name, RobustPacking x, int level, int[] want) {
        due(name + ": length", x.list(level, -1), want.length);
        for (int i = 0; i < want.length; i++) {
            due(name + ": list(" + level + ", " + i + ")", x.list(level, i), want[i]);
        }
        due(name + ": behind the end", x.list(level, want.length), NONE);
        due(name + ": -2", x.list(level, -2), NONE);
    }

    // ---- promise 23

    private static void listArguments() {
        RobustPacking x = four();
        for (int far : FAR) {
            due("list(4, " + far + ")", x.list(4, far), NONE);
            due("list(0, " + far + ")", x.list(0, far), NONE);
            due("list(" + far + ", 0)", x.list(far, 0), NO_SUCH);
            due("list(" + far + ", -1)", x.list(far, -1), NO_SUCH);
            due("list(" + far + ", -2)", x.list(far, -2), NO_SUCH);
        }
        due("list(-1, 0)", x.list(-1, 0), NO_SUCH);
        due("list(5, -1)", x.list(5, -1), NO_SUCH);
        due("list(5, 99)", x.list(5, 99), NO_SUCH);
        due("list(4, -1)", x.list(4, -1), 7);
        RobustPacking y = equalOnes(12);
        for (int level = 0; level <= 12; level++) {
            int[] want = new int[level + 1];
            for (int i = 0; i <= level; i++) {
                want[i] = (1 << i) - 1;
            }
            list("equal", y, level, want);
        }
        due("list(13, 0)", y.list(13, 0), NO_SUCH);
        y.rule(0, 10);
        list("equal, only what fits", y, 12, new int[] {0, 1, 3, 7, 15, 31});
        y.rule(0, 9);
        list("equal, one less", y, 12, new int[] {0, 1, 3, 7, 15});
        y.rule(0, 0);
        list("equal, nothing fits", y, 12, new int[] {0});
        y.remove(11);
        due("list(12, 0) of eleven", y.list(12, 0), NO_SUCH);
        due("list(11, 0) of eleven", y.list(11, 0), 0);
    }

    /** "at least its plain profit and at most its protected weight, and one of these is different, or both are the same .." */
    private static void dominance() {
        list("as heavy, more profit", pair(5, 3, 6, 3), 2, new int[] {0, 2, 3});
        list("as much profit, heavier", pair(5, 3, 5, 4), 2, new int[] {0, 1, 3});
        list("as much profit, lighter", pair(5, 4, 5, 3), 2, new int[] {0, 2, 3});
        list("the same, the lower number", pair(5, 3, 5, 3), 2, new int[] {0, 1, 3});
        list("more profit, heavier", pair(5, 3, 6, 4), 2, new int[] {0, 1, 2, 3});
        list("less profit, lighter", pair(6, 4, 5, 3), 2, new int[] {0, 2, 1, 3});
        list("more profit, lighter", pair(5, 4, 6, 3), 2, new int[] {0, 2, 3});
        list("only the items below the level", pair(5, 4, 6, 3), 1, new int[] {0, 1});
        RobustPacking x = ruled(pair(5, 3, 5, 4), 1000, 1, 0);
        x.set(0, 2, 4);
        list("protected weights", x, 2, new int[] {0, 2, 3});
        x.rule(0, 11);
        list("just fits", x, 2, new int[] {0, 2, 3});
        x.rule(0, 10);
        list("does not fit", x, 2, new int[] {0, 2});
        x.rule(1, 0);
        list("fits without a budget", x, 2, new int[] {0, 1, 3});
        // Of three alike, each number of them is there once, as the lowest numbers.
        RobustPacking y = pair(2, 2, 1, 1);
        y.add(1, 1, 0, 0);
        list("one for two", y, 3, new int[] {0, 2, 1, 3, 7});
    }

    /** "whether they are allowed or not", and "Conditions, profit deviations and the budget H do not matter for lists." */
    private static void whatDoesNotMatter() {
        RobustPacking x = equalOnes(3);
        x.conflict(0, 1);
        x.need(2, 0);
        x.set(0, 4, 0);
        x.set(1, 4, 0);
        x.set(0, 3, 999);
        x.rule(2, 12);
        list("conditions", x, 3, new int[] {0, 1, 3, 7});
        due("conditions: dominator(3, 4)", x.dominator(3, 4), 1);
        due("conditions: dominator(3, 6)", x.dominator(3, 6), 3);
        due("conditions: dominator(3, 3)", x.dominator(3, 3), NONE);
    }

    // ---- promise 24

    private static void dominatorArguments() {
        RobustPacking x = four();
        for (int far : FAR) {
            due("dominator(" + far + ", 0)", x.dominator(far, 0), NO_SUCH);
            due("dominator(" + far + ", -1)", x.dominator(far, -1), NO_SUCH);
            due("dominator(4, " + far + ")", x.dominator(4, far), NO_SUCH);
            due("dominator(0, " + far + ")", x.dominator(0, far), NO_SUCH);
        }
        due("dominator(-1, 0)", x.dominator(-1, 0), NO_SUCH);
        due("dominator(5, 0)", x.dominator(5, 0), NO_SUCH);
        due("dominator(5, 15)", x.dominator(5, 15), NO_SUCH);
        for (int level = 0; level <= 4; level++) {
            due("dominator(" + level + ", -1)", x.dominator(level, -1), NO_SUCH);
            due("dominator of an item at the level " + level, x.dominator(level, 1 << level), NO_SUCH);
            due("dominator of the empty choice, level " + level, x.dominator(level, 0), NONE);
        }
        due("dominator(3, 7), too heavy", x.dominator(3, 7), NOT_POSSIBLE);
        due("dominator(2, 7), no such choice first", x.dominator(2, 7), NO_SUCH);
        x.rule(0, 14);
        due("dominator(3, 7), too heavy by 1", x.dominator(3, 7), NOT_POSSIBLE);
        x.rule(0, 15);
        due("dominator(3, 7), just fits", x.dominator(3, 7), NONE);
        RobustPacking y = equalOnes(12);
        due("dominator(12, 4095)", y.dominator(12, 4095), NONE);
        due("dominator(12, 4096)", y.dominator(12, 4096), NO_SUCH);
        due("dominator(13, 0)", y.dominator(13, 0), NO_SUCH);
        due("dominator(12, 2048)", y.dominator(12, 2048), 1);
        due("dominator(11, 2048)", y.dominator(11, 2048), NO_SUCH);
        due("dominator(12, 4094)", y.dominator(12, 4094), 2047);
    }

    /** "the first one in the list that does", "NONE if it is in the list itself" */
    private static void firstDominator() {
        due("as heavy, more profit", pair(5, 3, 6, 3).dominator(2, 1), 2);
        due("as heavy, more profit, itself", pair(5, 3, 6, 3).dominator(2, 2), NONE);
        due("as much profit, heavier", pair(5, 3, 5, 4).dominator(2, 2), 1);
        due("as much profit, lighter", pair(5, 4, 5, 3).dominator(2, 1), 2);
        due("the same", pair(5, 3, 5, 3).dominator(2, 2), 1);
        due("the same, the lower number", pair(5, 3, 5, 3).dominator(2, 1), NONE);
        due("below the level of the other", pair(5, 4, 6, 3).dominator(1, 1), NONE);
        due("at the level of the other", pair(5, 4, 6, 3).dominator(2, 1), 2);
        RobustPacking x = pair(1, 1, 2, 2);
        x.add(3, 3, 0, 0);
        x.add(2, 9, 0, 0);
        // In the list, in ascending order of weights 1, 2, 3, ..: items 0; 1; 0 and 1; ..
        due("of all with more profit the first", x.dominator(4, 8), 2);
        x.set(3, 0, 3);
        due("then the next one", x.dominator(4, 8), 3);
        x.set(3, 0, 1);
        due("then the one before", x.dominator(4, 8), 1);
        x.rule(0, 9);
        due("just fits", x.dominator(4, 8), 1);
        x.rule(0, 8);
        due("does not fit", x.dominator(4, 8), NOT_POSSIBLE);
    }

    // ---- promise 25

    /** "The thresholds are the different weight deviations of all items, and 0, in descending order." */
    private static void thresholds() {
        RobustPacking x = new RobustPacking();
        due("thresholds: without items", x.threshold(-1), 1);
        due("thresholds: 0", x.threshold(0), 0);
        due("thresholds: 1", x.threshold(1), NONE);
        x.add(1, 1, 0, 9);
        due("thresholds: 0 is there once", x.threshold(-1), 1);
        x.add(1, 1, 999, 9);
        x.add(1, 1, 999, 8);
        x.add(1, 1, 1, 7);
        due("thresholds: equal ones once", x.threshold(-1), 3);
        due("thresholds: the greatest first", x.threshold(0), 999);
        due("thresholds: then 1", x.threshold(1), 1);
        due("thresholds: then 0", x.threshold(2), 0);
        due("thresholds: then none", x.threshold(3), NONE);
        for (int far : FAR) {
            due("threshold(" + far + ")", x.threshold(far), NONE);
            due("plain(" + far + ")", x.plain(far), NO_SUCH);
        }
        due("plain(-1)", x.plain(-1), NO_SUCH);
        due("plain(3)", x.plain(3), NO_SUCH);
        due("plain(2)", x.plain(2), 2);
        RobustPacking y = new RobustPacking();
        for (int i = 0; i < 12; i++) {
            y.add(1, 1, 1 + i, 0);
        }
        due("thresholds: thirteen", y.threshold(-1), 13);
        for (int i = 0; i <= 12; i++) {
            due("thresholds: of thirteen " + i, y.threshold(i), 12 - i);
        }
        due("thresholds: a fourteenth", y.threshold(13), NONE);
        due("plain(12)", y.plain(12), 12);
        due("plain(13)", y.plain(13), NO_SUCH);
        y.remove(11);
        due("thresholds: a removed one", y.threshold(0), 11);
        due("thresholds: twelve", y.threshold(-1), 12);
    }

    // ---- promise 26

    /** "the capacity minus G * t (below 0, nothing fits, not even the empty choice)" */
    private static void plainCapacities() {
        RobustPacking x = ruled(alike(1, 5, 1, 999, 0), 9999, 10, 0);
        due("plain: 9 left", x.plain(0), 5);
        x.rule(0, 9991);
        due("plain: 1 left", x.plain(0), 5);
        x.rule(0, 9990);
        due("plain: 0 left", x.plain(0), 0);
        x.rule(0, 9989);
        due("plain: 1 too much", x.plain(0), NONE);
        due("plain: for 0", x.plain(1), 5);
        x.rule(0, 9999);
        x.rule(1, 11);
        due("plain: far too much", x.plain(0), NONE);
        x.rule(1, 12);
        due("plain: still more", x.plain(0), NONE);
        x.rule(0, 0);
        due("plain: capacity 0, for 0", x.plain(1), 0);
        x.rule(1, 0);
        due("plain: capacity 0, without a budget", x.plain(0), 0);
        x.rule(0, 1);
        due("plain: without a budget", x.plain(0), 5);
        due("plain: without a budget, for 0", x.plain(1), 0);
        due("plain: no such one", x.plain(2), NO_SUCH);
        x.rule(0, 1000);
        due("plain: weight and deviation, just", x.plain(1), 5);
        x.rule(0, 999);
        due("plain: weight and deviation, not", x.plain(1), 0);
    }

    /** "w + max(v - t, 0)": thresholds 6, 4, 0; item 0 weighs 10, 12, 16 then, item 1 20, 20, 24, item 2 always 30. */
    private static void plainWeights() {
        RobustPacking x = new RobustPacking();
        x.add(1, 10, 6, 9);
        x.add(2, 20, 4, 9);
        x.add(4, 30, 0, 9);
        int[] least = {60 + 6, 62 + 4, 70};
        for (int i = 0; i < 3; i++) {
            x.rule(1, 1);
            x.rule(0, least[i]);
            due("plain: all just fit, " + i, x.plain(i), 7);
            x.rule(0, least[i] - 1);
            due("plain: all but the first, " + i, x.plain(i), 6);
            x.rule(2, 12);
            due("plain: profits do not deviate, " + i, x.plain(i), 6);
            x.conflict(1, 2);
            due("plain: with a conflict, " + i, x.plain(i), 5);
            x.need(2, 1);
            due("plain: with a need and a conflict, " + i, x.plain(i), 3);
            x.conflict(1, 2);
            x.need(2, 1);
        }
    }

    /** "The greatest value of all plain problems is the greatest plain profit of an allowed choice that fits." */
    private static void greatestPlainValue() {
        Random random = new Random(26);
        for (int round = 0; round < 300; round++) {
            RobustPacking x = new RobustPacking();
            int size = random.nextInt(13);
            for (int i = 0; i < size; i++) {
                x.add(1 + random.nextInt(99), 1 + random.nextInt(50), random.nextInt(30), random.nextInt(99));
                if (random.nextInt(3) == 0) {
                    x.conflict(i, random.nextInt(i + 1));
                }
                if (random.nextInt(3) == 0) {
                    x.need(i, random.nextInt(i + 1));
                }
                x.set(i, 4, random.nextInt(9) - 1);
            }
            int capacity = random.nextInt(400);
            int g = random.nextInt(6);
            ruled(x, capacity, g, random.nextInt(13));
            int greatest = NONE;
            for (int i = x.threshold(-1) - 1; i >= 0; i--) {
                greatest = Math.max(greatest, x.plain(i));
            }
            due("plain: the greatest value, round " + round, 100000 + greatest, x.bestWith(capacity, g, 0));
        }
    }

    // ---- promise 27

    private static void recoveredArguments() {
        RobustPacking x = four();
        for (int far : FAR) {
            due("recovered(" + far + ", 0, 0)", x.recovered(far, 0, 0), NO_SUCH);
            due("recovered(0, " + far + ", 0)", x.recovered(0, far, 0), NO_SUCH);
            due("recovered(" + far + ", 15, 13)", x.recovered(far, 15, 13), NO_SUCH);
            due("recovered(0, 0, " + far + ")", x.recovered(0, 0, far), BAD_VALUE);
            due("recovered(0, 15, " + far + ")", x.recovered(0, 15, far), BAD_VALUE);
        }
        due("recovered(16, 0, 0)", x.recovered(16, 0, 0), NO_SUCH);
        due("recovered(0, 16, 0)", x.recovered(0, 16, 0), NO_SUCH);
        due("recovered(-1, 0, 0)", x.recovered(-1, 0, 0), NO_SUCH);
        due("recovered(0, -1, 0)", x.recovered(0, -1, 0), NO_SUCH);
        due("recovered(0, 0, -1)", x.recovered(0, 0, -1), BAD_VALUE);
        due("recovered(0, 0, 13)", x.recovered(0, 0, 13), BAD_VALUE);
        due("recovered(0, 3, 13)", x.recovered(0, 3, 13), BAD_VALUE);
        due("recovered(0, 3, 12)", x.recovered(0, 3, 12), NOT_POSSIBLE);
        due("recovered(15, 3, 0)", x.recovered(15, 3, 0), NOT_POSSIBLE);
        due("recovered(15, 1, 0)", x.recovered(15, 1, 0), NONE);
        due("recovered(0, 8, 0)", x.recovered(0, 8, 0), 0);
        RobustPacking y = equalOnes(12);
        due("recovered: one with G 0", y.recovered(4095, 1, 0), NOT_POSSIBLE);
        due("recovered: none with G 0", y.recovered(4095, 0, 0), 60);
        y.rule(1, 11);
        due("recovered: twelve with G 11", y.recovered(0, 4095, 0), NOT_POSSIBLE);
        due("recovered: eleven with G 11", y.recovered(0, 2047, 0), 0);
        y.rule(1, 12);
        due("recovered: twelve with G 12", y.recovered(4095, 4095, 0), 60);
    }

    /** "up to R items can be taken out of a choice", down to a rest that is allowed and light enough. */
    private static void recoveredRests() {
        RobustPacking x = ruled(alike(12, 3, 10, 5, 99), 120, 12, 12);
        int[] capacities = {120, 119, 110, 109, 100, 10, 9, 0};
        int[] gone = {0, 1, 1, 2, 2, 11, 12, 12};
        for (int i = 0; i < capacities.length; i++) {
            x.rule(0, capacities[i]);
            due("rests: capacity " + capacities[i], x.recovered(4095, 0, gone[i]), 36 - 3 * gone[i]);
            due("rests: capacity " + capacities[i] + ", all can go", x.recovered(4095, 0, 12), 36 - 3 * gone[i]);
            if (gone[i] > 0) {
                due("rests: capacity " + capacities[i] + ", one less can go", x.recovered(4095, 0, gone[i] - 1), NONE);
            }
        }
        x.rule(0, 30);
        due("rests: those that deviate go", x.recovered(31, 3, 2), 9);
        due("rests: one of them stays", x.recovered(15, 3, 1), NONE);
        x.rule(0, 35);
        due("rests: it can stay then", x.recovered(15, 3, 1), 9);
        due("rests: just as heavy", x.recovered(7, 1, 0), 9);
        due("rests: what is outside has no effect", x.recovered(7, 4088, 0), 9);
        x.rule(0, 34);
        due("rests: too heavy by 1", x.recovered(7, 1, 0), NONE);
        x.rule(0, 9999);
        x.conflict(0, 1);
        due("rests: not allowed as it is", x.recovered(3, 0, 0), NONE);
        due("rests: allowed without one", x.recovered(3, 0, 1), 3);
        x.need(0, 2);
        due("rests: what needs has to go", x.recovered(1, 0, 0), NONE);
        due("rests: it goes", x.recovered(1, 0, 1), 0);
        x.set(0, 0, 999);
        due("rests: the greatest profit", x.recovered(7, 0, 1), 1002);
        due("rests: nothing is put in", x.recovered(3, 0, 1), 3);
    }

    // ---- promise 28

    private static void adversaryArguments() {
        RobustPacking x = four();
        for (int far : FAR) {
            due("adversary(" + far + ", 0, 0)", x.adversary(far, 0, 0), NO_SUCH);
            due("adversary(" + far + ", 13, 2)", x.adversary(far, 13, 2), NO_SUCH);
            due("adversary(0, " + far + ", 0)", x.adversary(0, far, 0), BAD_VALUE);
            due("adversary(0, 0, " + far + ")", x.adversary(0, 0, far), BAD_VALUE);
        }
        due("adversary(16, 0, 0)", x.adversary(16, 0, 0), NO_SUCH);
        due("adversary(-1, 0, 0)", x.adversary(-1, 0, 0), NO_SUCH);
        due("adversary(0, -1, 0)", x.adversary(0, -1, 0), BAD_VALUE);
        due("adversary(0, 13, 1)", x.adversary(0, 13, 1), BAD_VALUE);
        due("adversary(15, 0, -1)", x.adversary(15, 0, -1), BAD_VALUE);
        due("adversary(15, 0, 2)", x.adversary(15, 0, 2), BAD_VALUE);
        due("adversary(15, 0, 0)", x.adversary(15, 0, 0), NONE);
        due("adversary(15, 12, 0)", x.adversary(15, 12, 0), 18);
        due("adversary(0, 0, 0)", x.adversary(0, 0, 0), 0);
        due("adversary(0, 0, 1)", x.adversary(0, 0, 1), 0);
    }

    /** "of all sets of at most G items of the choice with this least profit, the least one as a number" */
    private static void adversaryScenarios() {
        RobustPacking x = ruled(alike(3, 4, 10, 5, 0), 35, 0, 0);
        due("least: G 0 has one scenario", x.adversary(7, 1, 0), 12);
        due("least: the empty one", x.adversary(7, 1, 1), 0);
        x.rule(1, 1);
        due("least: one can deviate", x.adversary(7, 1, 0), 12);
        due("least: without effect", x.adversary(7, 1, 1), 0);
        x.rule(1, 2);
        due("least: two can deviate", x.adversary(7, 1, 0), 8);
        due("least: the first two", x.adversary(7, 1, 1), 3);
        due("least: none can go", x.adversary(7, 0, 0), NONE);
        due("least: lost in the first two", x.adversary(7, 0, 1), 3);
        due("least: only of the choice", x.adversary(6, 0, 1), 0);
        x.set(0, 2, 0);
        due("least: the first one does not deviate", x.adversary(7, 1, 1), 6);
        due("least: lost in the last two", x.adversary(7, 0, 1), 6);
        x.rule(1, 3);
        due("least: all three are no worse", x.adversary(7, 0, 1), 6);
        x.rule(0, 29);
        due("least: lost without a deviation", x.adversary(7, 0, 1), 0);
        due("least: its profit", x.adversary(7, 0, 0), NONE);
        x.set(0, 0, 9);
        x.rule(0, 20);
        due("least: one goes, lost behind a better one", x.adversary(7, 1, 0), NONE);
        due("least: the first that is lost", x.adversary(7, 1, 1), 6);
        due("least: two go", x.adversary(7, 2, 0), 9);
        due("least: one of two stays", x.adversary(7, 2, 1), 6);
    }

    /** A choice that is not allowed at all, and the greatest budgets. */
    private static void adversaryOfMany() {
        RobustPacking x = ruled(alike(12, 1, 1, 1, 0), 18, 12, 12);
        due("many: none can go", x.adversary(4095, 0, 0), NONE);
        due("many: the first seven", x.adversary(4095, 0, 1), 127);
        due("many: three go", x.adversary(4095, 3, 0), 9);
        due("many: two are too few", x.adversary(4095, 2, 0), NONE);
        due("many: eleven deviate then", x.adversary(4095, 2, 1), 2047);
        x.rule(1, 11);
        due("many: eleven at most", x.adversary(4095, 2, 1), 2047);
        x.rule(1, 10);
        due("many: ten at most", x.adversary(4095, 2, 0), 10);
        due("many: ten at most, the scenario", x.adversary(4095, 2, 1), 511);
        x.conflict(0, 1);
        due("many: not allowed", x.adversary(4095, 0, 0), NONE);
        due("many: in no scenario", x.adversary(4095, 0, 1), 0);
        // Of the two that do not deviate then, only one can stay.
        due("many: all can go", x.adversary(4095, 12, 0), 9);
        due("many: all but the two deviate", x.adversary(4095, 12, 1), 4092);
    }

    public static void main(String[] args) {
        listArguments();
        dominance();
        whatDoesNotMatter();
        dominatorArguments();
        firstDominator();
        thresholds();
        plainCapacities();
        plainWeights();
        greatestPlainValue();
        recoveredArguments();
        recoveredRests();
        adversaryArguments();
        adversaryScenarios();
        adversaryOfMany();
        end("all lists are as due");
    }
}
