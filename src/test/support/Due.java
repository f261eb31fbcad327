/** What the tests share: the count of wrong answers, planners to begin with, and texts for the pad. */
abstract class Due {
    static final int NO_SUCH = -1, BAD_VALUE = -2, BAD_TEXT = -3, TOO_MANY = -4, NOT_POSSIBLE = -5, NONE = -6;
    static final int LOW = Integer.MIN_VALUE;
    static final int HIGH = Integer.MAX_VALUE;
    private static final int MOST_SHOWN = 60;
    private static int wrong = 0;

    static void due(String call, int got, int want) {
        if (got != want) {
            wrong++;
            if (wrong <= MOST_SHOWN) {
                System.out.println(call + " answered " + got + ", due is " + want);
            }
        }
    }

    /** The end of a test: exit code 1 if an answer was wrong. */
    static void end(String right) {
        System.out.println(wrong == 0 ? right : wrong + " answers are not as due");
        if (wrong != 0) {
            System.exit(1);
        }
    }

    /**
     * Four items A, B, C, D, capacity 12, both budgets 1. Protected weights and profits of all choices:
     * 0: 0/0, A: 8/6, B: 7/8, AB: 12/14, C: 3/0, AC: 11/10, BC: 10/8, ABC: 15/18,
     * D: 10/9, AD: 17/16, BD: 16/17, ABD: 21/24, CD: 13/10, ACD: 20/20, BCD: 19/18, ABCD: 24/28.
     */
    static RobustPacking four() {
        RobustPacking x = new RobustPacking();
        x.add(10, 5, 3, 4);
        x.add(8, 4, 3, 0);
        x.add(6, 3, 0, 6);
        x.add(10, 9, 1, 1);
        x.rule(0, 12);
        x.rule(1, 1);
        x.rule(2, 1);
        return x;
    }

    /** Items with the profit 5 and the weight 2 that never deviate. */
    static RobustPacking equalOnes(int number) {
        return alike(number, 5, 2, 0, 0);
    }

    static RobustPacking alike(int number, int profit, int weight, int weightDeviation, int profitDeviation) {
        RobustPacking x = new RobustPacking();
        for (int i = 0; i < number; i++) {
            x.add(profit, weight, weightDeviation, profitDeviation);
        }
        return x;
    }

    /** The settings of a planner, all at once. */
    static RobustPacking ruled(RobustPacking x, int capacity, int g, int h) {
        x.rule(0, capacity);
        x.rule(1, g);
        x.rule(2, h);
        return x;
    }

    /** One to eight characters as put() takes them. */
    static long pack(String text) {
        long characters = 0;
        for (int i = 0; i < text.length(); i++) {
            characters = characters << 8 | text.charAt(i);
        }
        return characters;
    }

    static RobustPacking write(RobustPacking x, String text) {
        for (int at = 0; at < text.length(); at += 8) {
            x.put(pack(text.substring(at, Math.min(at + 8, text.length()))));
        }
        return x;
    }

    static RobustPacking written(String text) {
        return write(new RobustPacking(), text);
    }
}
