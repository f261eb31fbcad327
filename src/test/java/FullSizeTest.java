import java.util.Random;

/**
 * Planners of nine to twelve items, for which the naive planner takes too long: what one call answers
 * has to follow, as the document defines it, from what other calls answer.
 */
public final class FullSizeTest extends Due {
    /** An object is used for at most 512 calls; making one takes some forty of them. */
    private static final int MOST_ASKED = 400;
    private static final int ROUNDS = 60;

    private final Random random;
    private final int round;
    private final int size;
    private final int[][] items;
    private final int[][] conflicts;
    private final int[][] needs;
    private final int capacity;
    private final int g;
    private final int h;
    private RobustPacking asked;
    private int calls = MOST_ASKED;

    private FullSizeTest(int round) {
        this.round = round;
        random = new Random(7919L * round + 5);
        size = 9 + round % 4;
        int scale = new int[] {4, 25, 150, 998}[round / 4 % 4];
        items = new int[size][];
        int weight = 0;
        for (int i = 0; i < size; i++) {
            items[i] = new int[] {1 + up(scale), 1 + up(scale), up(scale + 1), up(scale) / 2, up(3) == 0 ? up(4) : -1};
            weight += items[i][1] + items[i][2];
        }
        conflicts = pairs(up(4));
        needs = pairs(up(4));
        capacity = Math.min(9999, weight / 4 + up(weight / 2 + 1));
        g = up(size + 1);
        h = up(size + 1);
    }

    private int up(int bound) {
        return random.nextInt(bound);
    }

    private int[][] pairs(int number) {
        int[][] pairs = new int[number][];
        for (int i = 0; i < number; i++) {
            int first = up(size);
            pairs[i] = new int[] {first, (first + 1 + up(size - 1)) % size};
        }
        return pairs;
    }

    private RobustPacking planner() {
        RobustPacking x = new RobustPacking();
        for (int i = 0; i < size; i++) {
            x.add(items[i][0], items[i][1], items[i][2], items[i][3]);
            x.set(i, 4, items[i][4]);
        }
        for (int[] pair : conflicts) {
            x.conflict(pair[0], pair[1]);
        }
        for (int[] pair : needs) {
            x.need(pair[0], pair[1]);
        }
        return ruled(x, capacity, g, h);
    }

    /** A planner for one question more, or for a few. */
    private RobustPacking ask() {
        if (calls >= MOST_ASKED) {
            asked = planner();
            calls = 0;
        }
        calls += 4;
        return asked;
    }

    private String here(String what) {
        return "round " + round + ": " + what;
    }

    /** "the greatest d of 0, 1, 2, ... such that with each increase from 0 to d the best choice is the one that it is now" */
    private void headrooms() {
        int best = ask().best(0);
        for (int item = 0; item < size; item++) {
            // Of the items that are not in the best choice, one is enough: nothing happens there up to 999.
            boolean in = (best >> item & 1) == 1;
            if (!in && item != round % size) {
                continue;
            }
            int now = items[item][2];
            int room = 0;
            while (now + room < 999 && bestBehind(item, now + room + 1) == best) {
                room++;
            }
            due(here("headroom(" + item + ")"), ask().headroom(item), room);
        }
    }

    private int bestBehind(int item, int deviation) {
        RobustPacking x = ask();
        x.set(item, 2, deviation);
        int best = x.best(0);
        x.undo();
        return best;
    }

    /** "of all sets of at most G items of the choice with this least profit, the least one as a number" */
    private void adversaries() {
        int all = (1 << size) - 1;
        for (int choice : new int[] {all, all & ~(1 << up(size)), up(all + 1)}) {
            int r = up(up(2) == 0 ? 4 : 13);
            int least = HIGH;
            int worst = 0;
            for (int scenario = 0; scenario <= choice; scenario++) {
                if ((scenario & ~choice) != 0 || Integer.bitCount(scenario) > g) {
                    continue;
                }
                int profit = ask().recovered(choice, scenario, r);
                if (profit < least) {
                    least = profit;
                    worst = scenario;
                }
            }
            due(here("adversary(" + choice + ", " + r + ", 0)"), ask().adversary(choice, r, 0), least);
            due(here("adversary(" + choice + ", " + r + ", 1)"), ask().adversary(choice, r, 1), worst);
        }
    }

    /** "the capacity 0 and all greater ones up to 9999 with which the protected profit of the best choice is greater" */
    private void steps() {
        int number = ask().frontier(-1, 0);
        int before = -1;
        for (int index = 0; index < number; index++) {
            int from = ask().frontier(index, 0);
            int profit = ask().frontier(index, 1);
            due(here("step " + index + ": its profit"), ask().bestWith(from, g, h), profit);
            due(here("step " + index + ": its least capacity"), ask().leastCapacity(profit - 100000), from);
            RobustPacking x = ask();
            x.rule(0, from);
            due(here("step " + index + ": its choice"), ask().frontier(index, 2), x.best(0));
            x.undo();
            if (index > 0) {
                due(here("step " + index + ": just before"), ask().bestWith(from - 1, g, h), before);
                due(here("step " + index + ": more than before"), ask().leastCapacity(before + 1 - 100000), from);
            }
            before = profit;
        }
        due(here("the first step"), ask().frontier(0, 0), 0);
        due(here("the last step"), ask().bestWith(9999, g, h), before);
        due(here("more than that"), ask().leastCapacity(before + 1 - 100000), NONE);
        due(here("no step more"), ask().frontier(number, 0), NONE);
    }

    /** "The list of the level consists of the choices that are not dominated", whatever the conditions say. */
    private void lists() {
        int level = size - up(3);
        int end = 1 << level;
        int[] weight = new int[end];
        int[] profit = new int[end];
        for (int choice = 0; choice < end; choice++) {
            weight[choice] = ask().choice(choice, 1);
            profit[choice] = ask().choice(choice, 2);
        }
        int most = -1;
        int index = 0;
        for (int at = 0; at <= capacity; at++) {
            int found = -1;
            for (int choice = 0; choice < end; choice++) {
                if (weight[choice] == at && profit[choice] > (found < 0 ? most : profit[found])) {
                    found = choice;
                }
            }
            if (found >= 0) {
                due(here("list(" + level + ", " + index + ")"), ask().list(level, index), found);
                due(here("dominator of the list's " + index), ask().dominator(level, found), NONE);
                most = profit[found];
                index++;
            }
        }
        due(here("list(" + level + ", -1)"), ask().list(level, -1), index);
        for (int i = 0; i < 40; i++) {
            dominatorOf(level, up(end), weight, profit);
        }
    }

    private void dominatorOf(int level, int items, int[] weight, int[] profit) {
        int found = NONE;
        for (int index = 0; weight[items] <= capacity && found == NONE; index++) {
            int other = ask().list(level, index);
            if (other == items || other < 0) {
                break;
            }
            boolean same = profit[other] == profit[items] && weight[other] == weight[items];
            if (profit[other] >= profit[items] && weight[other] <= weight[items] && (!same || other < items)) {
                found = other;
            }
        }
        int want = weight[items] > capacity ? NOT_POSSIBLE : found;
        due(here("dominator(" + level + ", " + items + ")"), ask().dominator(level, items), want);
    }

    public static void main(String[] args) {
        for (int round = 0; round < ROUNDS; round++) {
            FullSizeTest test = new FullSizeTest(round);
            test.headrooms();
            test.adversaries();
            test.steps();
            test.lists();
        }
        end("full planners agree with themselves");
    }
}
