/** The promises one by one: what is due was worked out by hand from the document. */
public final class PromisesTest extends Due {
    private static void promise1() {
        RobustPacking x = new RobustPacking();
        int[] counts = {0, 1000, 0, 0, 0, 0, 0, 0};
        for (int what = 0; what < counts.length; what++) {
            due("1: count(" + what + ")", x.count(what), counts[what]);
        }
        due("1: best(0)", x.best(0), 0);
        due("1: best(1)", x.best(1), 100000);
        due("1: best(4)", x.best(4), 0);
        due("1: best(6)", x.best(6), 1);
        due("1: list(0, -1)", x.list(0, -1), 1);
        due("1: frontier(-1, 0)", x.frontier(-1, 0), 1);
        due("1: threshold(-1)", x.threshold(-1), 1);
        due("1: plain(0)", x.plain(0), 0);
        due("1: adversary(0, 0, 0)", x.adversary(0, 0, 0), 0);
        due("1: greedy(0)", x.greedy(0), 0);
        due("1: improve(0, 1)", x.improve(0, 1), 0);
        due("1: undo()", x.undo(), NOT_POSSIBLE);
    }

    private static void promise2() {
        RobustPacking x = new RobustPacking();
        int[][] bad = {{0, 1, 0, 0}, {1000, 1, 0, 0}, {1, 0, 0, 0}, {1, 1000, 0, 0}, {1, 1, -1, 0}, {1, 1, 1000, 0},
            {1, 1, 0, -1}, {1, 1, 0, 1000}, {LOW, 1, 0, 0}, {1, HIGH, 0, 0}};
        for (int[] b : bad) {
            due("2: add(" + b[0] + ", " + b[1] + ", " + b[2] + ", " + b[3] + ")", x.add(b[0], b[1], b[2], b[3]), BAD_VALUE);
        }
        due("2: nothing kept", x.count(7), 0);
        due("2: add(1, 2, 0, 3)", x.add(1, 2, 0, 3), 0);
        due("2: add(999, ..)", x.add(999, 999, 999, 999), 1);
        int[] first = {1, 2, 0, 3, NONE, 0, 0, 0};
        for (int property = 0; property < first.length; property++) {
            due("2: item(0, " + property + ")", x.item(0, property), first[property]);
        }
        for (int i = 2; i < 12; i++) {
            due("2: add number " + i, x.add(1, 1, 1, 1), i);
        }
        due("2: add a 13th", x.add(1, 1, 1, 1), TOO_MANY);
        due("2: add a bad 13th", x.add(0, 1, 1, 1), BAD_VALUE);
        due("2: count(0)", x.count(0), 12);
        x.conflict(11, 0);
        x.need(11, 1);
        x.set(11, 4, 2);
        x.remove(11);
        x.add(1, 1, 1, 1);
        due("2: a new item has no group", x.item(11, 4), NONE);
        due("2: a new item has no conflicts", x.item(11, 5), 0);
        due("2: a new item needs none", x.item(11, 6), 0);
    }

    private static void promise3() {
        RobustPacking x = equalOnes(5);
        due("3: remove(5)", x.remove(5), NO_SUCH);
        due("3: remove(-1)", x.remove(-1), NO_SUCH);
        x.set(3, 0, 33);
        x.set(3, 4, 1);
        x.conflict(0, 3);
        x.conflict(2, 4);
        x.conflict(3, 4);
        x.need(4, 0);
        x.need(4, 2);
        x.need(1, 4);
        due("3: remove(2)", x.remove(2), 4);
        due("3: profit moved", x.item(2, 0), 33);
        due("3: group moved", x.item(2, 4), 1);
        due("3: conflicts of 0", x.item(0, 5), 4);
        due("3: conflicts of 2", x.item(2, 5), 9);
        due("3: conflicts of 3", x.item(3, 5), 4);
        due("3: needs of 3", x.item(3, 6), 1);
        due("3: needs of 1", x.item(1, 6), 8);
        due("3: needed 3", x.item(3, 7), 2);
        due("3: pairs", x.count(4), 2);
        due("3: needs", x.count(5), 2);
        due("3: item(4, 0)", x.item(4, 0), NO_SUCH);
        due("3: remove(0)", x.remove(0), 3);
        due("3: conflicts of 1", x.item(1, 5), 4);
        due("3: needs of 2", x.item(2, 6), 0);
        due("3: needs of 0", x.item(0, 6), 4);
        due("3: remove(2)", x.remove(2), 2);
        due("3: remove(1)", x.remove(1), 1);
        due("3: remove(0)", x.remove(0), 0);
        due("3: remove(0) again", x.remove(0), NO_SUCH);
        RobustPacking y = equalOnes(3);
        y.need(2, 0);
        y.conflict(2, 1);
        y.remove(2);
        due("3: a need of the last one goes with it", y.item(0, 7), 0);
        due("3: it is not counted", y.count(5), 0);
        due("3: a conflict goes, too", y.item(1, 5), 0);
    }

    private static void promise4() {
        RobustPacking x = four();
        due("4: set(4, 0, 1)", x.set(4, 0, 1), NO_SUCH);
        due("4: set(-1, 9, 1)", x.set(-1, 9, 1), NO_SUCH);
        due("4: set(0, -1, 1)", x.set(0, -1, 1), BAD_VALUE);
        due("4: set(0, 5, 1)", x.set(0, 5, 1), BAD_VALUE);
        int[] least = {1, 1, 0, 0, -1};
        int[] most = {999, 999, 999, 999, 3};
        int[] first = {10, 5, 3, 4, NONE};
        for (int property = 0; property < 5; property++) {
            due("4: too low " + property, x.set(0, property, least[property] - 1), BAD_VALUE);
            due("4: too high " + property, x.set(0, property, most[property] + 1), BAD_VALUE);
            due("4: most " + property, x.set(0, property, most[property]), first[property]);
            due("4: is most " + property, x.item(0, property), most[property]);
            due("4: least " + property, x.set(0, property, least[property]), most[property]);
            due("4: is least " + property, x.item(0, property), property == 4 ? NONE : least[property]);
        }
        due("4: set(1, 4, 0)", x.set(1, 4, 0), NONE);
        due("4: set(1, 4, 0) again", x.set(1, 4, 0), 0);
        due("4: other items stay", x.item(2, 0), 6);
        RobustPacking y = four();
        y.set(0, 2, 0);
        due("4: the protected weight follows", y.choice(1, 1), 5);
        due("4: the best choice follows", y.best(2), 12);
    }

    private static void promise5() {
        RobustPacking x = four();
        x.conflict(0, 2);
        x.conflict(3, 0);
        x.need(0, 1);
        x.need(2, 1);
        x.need(1, 3);
        x.set(2, 4, 3);
        due("5: item(0, 5)", x.item(0, 5), 12);
        due("5: item(2, 5)", x.item(2, 5), 1);
        due("5: item(0, 6)", x.item(0, 6), 2);
        due("5: item(1, 7)", x.item(1, 7), 5);
        due("5: item(3, 7)", x.item(3, 7), 2);
        due("5: item(3, 6)", x.item(3, 6), 0);
        due("5: item(3, 0)", x.item(3, 0), 10);
        due("5: item(3, 1)", x.item(3, 1), 9);
        due("5: item(3, 2)", x.item(3, 2), 1);
        due("5: item(2, 3)", x.item(2, 3), 6);
        due("5: item(2, 4)", x.item(2, 4), 3);
        due("5: item(3, 4)", x.item(3, 4), NONE);
        due("5: item(0, 8)", x.item(0, 8), BAD_VALUE);
        due("5: item(0, -1)", x.item(0, -1), BAD_VALUE);
        due("5: item(4, 8)", x.item(4, 8), NO_SUCH);
        due("5: item(LOW, 0)", x.item(LOW, 0), NO_SUCH);
    }

    private static void promise6() {
        RobustPacking x = four();
        due("6: conflict(0, 4)", x.conflict(0, 4), NO_SUCH);
        due("6: conflict(-1, 0)", x.conflict(-1, 0), NO_SUCH);
        due("6: conflict(4, 4)", x.conflict(4, 4), NO_SUCH);
        due("6: conflict(2, 2)", x.conflict(2, 2), BAD_VALUE);
        due("6: conflict(0, 1)", x.conflict(0, 1), 1);
        due("6: choice(3, 4)", x.choice(3, 4), 0);
        due("6: choice(7, 4)", x.choice(7, 4), 0);
        due("6: choice(5, 4)", x.choice(5, 4), 1);
        due("6: best(0)", x.best(0), 5);
        due("6: the other way round ends it", x.conflict(1, 0), 0);
        due("6: best(0) again", x.best(0), 3);
    }

    private static void promise7() {
        RobustPacking x = four();
        due("7: need(0, 4)", x.need(0, 4), NO_SUCH);
        due("7: need(4, 4)", x.need(4, 4), NO_SUCH);
        due("7: need(1, 1)", x.need(1, 1), BAD_VALUE);
        due("7: need(0, 2)", x.need(0, 2), 1);
        due("7: choice(1, 4)", x.choice(1, 4), 0);
        due("7: choice(4, 4)", x.choice(4, 4), 1);
        due("7: choice(5, 4)", x.choice(5, 4), 1);
        due("7: choice(3, 4)", x.choice(3, 4), 0);
        due("7: best(0)", x.best(0), 5);
        due("7: need(2, 0)", x.need(2, 0), 1);
        due("7: choice(4, 4) then", x.choice(4, 4), 0);
        due("7: count(5)", x.count(5), 2);
        due("7: need(0, 2) ends", x.need(0, 2), 0);
        due("7: choice(1, 4) then", x.choice(1, 4), 1);
        due("7: a conflict beside a need", x.conflict(0, 2), 1);
        due("7: choice(5, 4) then", x.choice(5, 4), 0);
    }

    private static void promise8() {
        RobustPacking x = new RobustPacking();
        int[] first = {1000, 0, 0};
        int[] most = {9999, 12, 12};
        for (int setting = 0; setting < 3; setting++) {
            due("8: too low " + setting, x.rule(setting, -1), BAD_VALUE);
            due("8: too high " + setting, x.rule(setting, most[setting] + 1), BAD_VALUE);
            due("8: most " + setting, x.rule(setting, most[setting]), first[setting]);
            due("8: is most " + setting, x.count(1 + setting), most[setting]);
            due("8: least " + setting, x.rule(setting, 0), most[setting]);
            due("8: is least " + setting, x.count(1 + setting), 0);
        }
        due("8: rule(3, 0)", x.rule(3, 0), BAD_VALUE);
        due("8: rule(-1, 0)", x.rule(-1, 0), BAD_VALUE);
    }

    private static void promise9() {
        RobustPacking x = new RobustPacking();
        due("9: put(0)", x.put(0), BAD_VALUE);
        due("9: put of code 32", x.put(32), BAD_VALUE);
        due("9: put of code 127", x.put(127), BAD_VALUE);
        due("9: put of code 33", x.put(33), 1);
        due("9: put of code 126", x.put(126), 2);
        due("9: a last character 0", x.put(65L << 8), BAD_VALUE);
        due("9: a gap", x.put(65L << 16 | 65), BAD_VALUE);
        due("9: a bit far above", x.put(1L << 56 | 65), BAD_VALUE);
        due("9: put(-1)", x.put(-1L), BAD_VALUE);
        due("9: the highest bit alone", x.put(Long.MIN_VALUE), BAD_VALUE);
        due("9: a bad one within", x.put(pack("12 4")), BAD_VALUE);
        due("9: a first character above 127", x.put(200L << 56 | pack("2345678")), BAD_VALUE);
        due("9: eight", x.put(pack("12345678")), 10);
        due("9: the pad", x.wipe(), 10);
        x.put(pack("12/3"));
        x.put(pack("4;5/6"));
        x.load();
        due("9: the highest bits come first", x.item(0, 0), 12);
        due("9: appended", x.item(0, 1), 34);
        for (int i = 1; i <= 9; i++) {
            due("9: fill " + i, x.put(pack("abcdefgh")), 8 * i);
        }
        due("9: fill to 79", x.put(pack("abcdefg")), 79);
        due("9: one too many", x.put(pack("ab")), TOO_MANY);
        due("9: the last one", x.put(pack("a")), 80);
        due("9: full", x.put(pack("a")), TOO_MANY);
        due("9: full, and bad", x.put(0), BAD_VALUE);
        due("9: length", x.count(6), 80);
    }

    private static void promise10() {
        RobustPacking x = new RobustPacking();
        due("10: wipe()", x.wipe(), 0);
        write(x, "1/1;2/2");
        due("10: wipe() of seven", x.wipe(), 7);
        due("10: count(6)", x.count(6), 0);
        due("10: fault()", x.fault(), 0);
        due("10: wipe() again", x.wipe(), 0);
        due("10: not in the history", x.count(7), 0);
    }

    private static void promise11() {
        String[] texts = {"", "5", "5/", "/", "0/1", "1/0", "1234/1", "1/1234", "1/1+00", "1/1+05", "1/1+", "1/1-",
            "1/1-1+1", "1/1@4", "1/1@", "1/1@33", "1/1@1-1", "1/1@1;", "1/1;", "1/1;;", "1/1+1000", "1/1-1000", "1/1x",
            "1//", "1/1+-", "1/1+1@2-3", "1/1+1+1", "x", ";1/1", "1;1", "1/1/1", "1/1;1/1;1/", "1/1-1-1", "1/1@1@1", "1/1@x"};
        int[] faults = {0, 1, 2, 0, 0, 2, 3, 5, 5, 5, 4, 4,
            5, 4, 4, 5, 5, 6, 4, 4, 7, 7, 3,
            2, 4, 7, 5, 0, 0, 1, 3, 10, 5, 5, 4};
        for (int i = 0; i < texts.length; i++) {
            RobustPacking x = new RobustPacking();
            write(x, texts[i]);
            due("11: fault of " + texts[i], x.fault(), faults[i]);
            due("11: load of " + texts[i], x.load(), BAD_TEXT);
            due("11: length of " + texts[i], x.count(6), texts[i].length());
        }
        String[] good = {"1/1", "999/999+999-999@3", "1/1+0", "1/1-0", "1/1+0-0", "1/1@0", "10/10+10-10@1;100/100",
            "1/1-5@2", "1/1+5@2;1/1", "1/2+3-4@0;5/6+7;8/9-1;2/3@3"};
        for (String text : good) {
            RobustPacking x = new RobustPacking();
            write(x, text);
            due("11: fault of " + text, x.fault(), NONE);
        }
        RobustPacking wiped = new RobustPacking();
        write(wiped, "1/1+5-5@1;1/1");
        wiped.wipe();
        write(wiped, "1/1");
        due("11: what was wiped is gone", wiped.fault(), NONE);
        wiped.load();
        due("11: and not read", wiped.item(0, 2), 0);
        write(wiped, "1/");
        due("11: the end is the end", wiped.fault(), 2);
        RobustPacking x = new RobustPacking();
        write(x, "1/1;".repeat(19) + "1/1");
        due("11: twenty items", x.fault(), NONE);
        due("11: too many of them", x.load(), TOO_MANY);
        write(x, ";");
        due("11: a full pad that ends too early", x.fault(), 80);
    }

    private static void promise12() {
        RobustPacking x = new RobustPacking();
        write(x, "12/34+5-67@2;8/9;1/2-3;4/5+6;7/8@0");
        due("12: load()", x.load(), 5);
        int[][] items = {{12, 34, 5, 67, 2}, {8, 9, 0, 0, NONE}, {1, 2, 0, 3, NONE}, {4, 5, 6, 0, NONE}, {7, 8, 0, 0, 0}};
        for (int i = 0; i < items.length; i++) {
            for (int property = 0; property < 5; property++) {
                due("12: item(" + i + ", " + property + ")", x.item(i, property), items[i][property]);
            }
        }
        due("12: the pad is empty", x.count(6), 0);
        due("12: one call in the history", x.count(7), 1);
        due("12: load() of nothing", x.load(), BAD_TEXT);
        write(x, "1/1;1/1;1/1;1/1;1/1;1/1;1/1;1/1");
        due("12: eight more", x.load(), TOO_MANY);
        due("12: the pad stays", x.count(6), 31);
        due("12: no item came", x.count(0), 5);
        x.remove(4);
        due("12: just twelve", x.load(), 8);
        due("12: count(0)", x.count(0), 12);
        due("12: undo()", x.undo(), 2);
        due("12: all gone together", x.count(0), 4);
        due("12: the pad does not come back", x.count(6), 0);
        write(x, "1/1+1x");
        due("12: a fault", x.load(), BAD_TEXT);
        due("12: the fault's pad stays", x.wipe(), 6);
        due("12: history", x.count(7), 2);
    }

    private static void promise13() {
        RobustPacking x = four();
        int[][] answers = {
            {0, 0, 100000, 100000, 1, 1, 0, 0, 12},
            {9, 12, 100018, 100014, 1, 1, 1, 1, 1},
            {4, 7, 100008, 100008, 1, 1, 2, 0, 12},
            {3, 3, 100006, 100000, 1, 1, 0, 4, 12},
            {12, 15, 100024, 100018, 1, 0, 1, 4, 0},
            {14, 17, 100020, 100016, 1, 0, 1, 1, NONE}};
        int[] choices = {0, 3, 2, 4, 7, 9};
        for (int i = 0; i < choices.length; i++) {
            for (int what = 0; what < 9; what++) {
                due("13: choice(" + choices[i] + ", " + what + ")", x.choice(choices[i], what), answers[i][what]);
            }
        }
        due("13: choice(16, 0)", x.choice(16, 0), NO_SUCH);
        due("13: choice(16, 9)", x.choice(16, 9), NO_SUCH);
        due("13: choice(-1, 0)", x.choice(-1, 0), NO_SUCH);
        due("13: choice(LOW, 0)", x.choice(LOW, 0), NO_SUCH);
        due("13: choice(0, 9)", x.choice(0, 9), BAD_VALUE);
        due("13: choice(0, -1)", x.choice(0, -1), BAD_VALUE);
        x.rule(1, 12);
        x.rule(2, 12);
        due("13: no item without a deviation", x.choice(15, 6), 11);
        due("13: no item without a profit deviation", x.choice(15, 7), 13);
        due("13: all deviate", x.choice(15, 1), 28);
        due("13: all profits deviate", x.choice(15, 3), 100023);
        x.rule(1, 2);
        due("13: the two greatest", x.choice(15, 6), 3);
        due("13: then the next one", x.choice(14, 6), 10);
        x.set(0, 3, 999);
        due("13: a negative profit", x.choice(1, 3), 99011);
        x.set(0, 4, 2);
        x.set(3, 4, 2);
        due("13: two of a group", x.choice(9, 4), 0);
        x.set(3, 4, 1);
        due("13: two groups", x.choice(9, 4), 1);
    }

    private static void promise14() {
        RobustPacking x = four();
        due("14: weightIn(3, 0)", x.weightIn(3, 0), 9);
        due("14: weightIn(3, 1)", x.weightIn(3, 1), 12);
        due("14: weightIn(3, 8)", x.weightIn(3, 8), 9);
        due("14: weightIn(3, 3)", x.weightIn(3, 3), NOT_POSSIBLE);
        due("14: weightIn(3, 12)", x.weightIn(3, 12), NOT_POSSIBLE);
        due("14: weightIn(16, 0)", x.weightIn(16, 0), NO_SUCH);
        due("14: weightIn(0, 16)", x.weightIn(0, 16), NO_SUCH);
        due("14: weightIn(-1, 0)", x.weightIn(-1, 0), NO_SUCH);
        due("14: weightIn(0, -1)", x.weightIn(0, -1), NO_SUCH);
        x.rule(1, 2);
        due("14: weightIn(15, 9)", x.weightIn(15, 9), 25);
    }

    private static void promise15() {
        RobustPacking x = four();
        int[] answers = {3, 100014, 12, 1, 3, 12, 8};
        for (int what = 0; what < answers.length; what++) {
            due("15: best(" + what + ")", x.best(what), answers[what]);
        }
        due("15: best(7)", x.best(7), BAD_VALUE);
        due("15: best(-1)", x.best(-1), BAD_VALUE);
        RobustPacking y = equalOnes(2);
        y.add(5, 3, 0, 0);
        y.rule(0, 2);
        due("15: of equal ones the least", y.best(0), 1);
        due("15: two of them", y.best(3), 2);
        due("15: in all", y.best(4), 0);
        due("15: in none", y.best(5), 4);
        y.rule(0, 3);
        due("15: heavier ones count", y.best(3), 3);
        due("15: in none then", y.best(5), 0);
        RobustPacking z = new RobustPacking();
        z.add(5, 3, 0, 0);
        z.add(5, 2, 0, 0);
        z.rule(0, 3);
        due("15: the lighter one", z.best(0), 2);
        z.rule(0, 2);
        due("15: the item 0 is in none", z.best(5), 1);
        z.rule(0, 0);
        due("15: nothing fits but the empty one", z.best(6), 1);
        due("15: weight of the empty one", z.best(2), 0);
        RobustPacking negative = new RobustPacking();
        negative.add(5, 1, 0, 9);
        negative.rule(2, 1);
        due("15: rather empty than a loss", negative.best(0), 0);
        negative.set(0, 3, 5);
        due("15: at equal profits rather light", negative.best(0), 0);
        due("15: both count", negative.best(3), 2);
        due("15: both fit", negative.best(6), 2);
    }

    private static void promise16() {
        RobustPacking x = four();
        due("16: as it is", x.bestWith(12, 1, 1), 100014);
        due("16: without budgets", x.bestWith(12, 0, 0), 100024);
        due("16: two weights deviate", x.bestWith(12, 2, 0), 100016);
        due("16: no capacity", x.bestWith(0, 0, 0), 100000);
        due("16: all deviate", x.bestWith(9999, 12, 12), 100023);
        due("16: nothing has changed", x.best(0), 3);
        due("16: count(1)", x.count(1), 12);
        due("16: history", x.count(7), 7);
        int[][] bad = {{-1, 0, 0}, {10000, 0, 0}, {0, -1, 0}, {0, 13, 0}, {0, 0, -1}, {0, 0, 13}};
        for (int[] b : bad) {
            due("16: bestWith(" + b[0] + ", " + b[1] + ", " + b[2] + ")", x.bestWith(b[0], b[1], b[2]), BAD_VALUE);
        }
    }

    private static void promise17() {
        RobustPacking x = four();
        int[] profits = {0, 1, 8, 9, 10, 11, 14, 15, 18, 19, 20, 21, 24, 25, 28, 29, 12000, 12001, -1};
        int[] answers = {0, 7, 7, 10, 11, 12, 12, 15, 15, 20, 20, 21, 21, 24, 24, NONE, NONE, BAD_VALUE, BAD_VALUE};
        for (int i = 0; i < profits.length; i++) {
            due("17: leastCapacity(" + profits[i] + ")", x.leastCapacity(profits[i]), answers[i]);
        }
        x.conflict(0, 1);
        due("17: only allowed ones", x.leastCapacity(14), 16);
        RobustPacking y = new RobustPacking();
        for (int i = 0; i < 11; i++) {
            y.add(1, 909, 0, 0);
        }
        due("17: just 9999", y.leastCapacity(11), 9999);
        y.set(0, 1, 910);
        due("17: 10000 is no capacity", y.leastCapacity(11), NONE);
        due("17: ten of them", y.leastCapacity(10), 9090);
    }

    private static void promise18() {
        RobustPacking x = four();
        due("18: no room", x.headroom(0), 0);
        due("18: no room either", x.headroom(1), 0);
        due("18: not in the best choice", x.headroom(2), 999);
        due("18: up to 999", x.headroom(3), 998);
        x.rule(0, 14);
        due("18: two more", x.headroom(0), 2);
        due("18: nothing has changed", x.item(0, 2), 3);
        due("18: the weights neither", x.best(2), 12);
        x.rule(1, 0);
        due("18: without a budget", x.headroom(0), 996);
        due("18: headroom(4)", x.headroom(4), NO_SUCH);
        due("18: headroom(-1)", x.headroom(-1), NO_SUCH);
        RobustPacking y = new RobustPacking();
        y.add(5, 4, 0, 0);
        y.add(5, 6, 0, 0);
        y.set(0, 4, 0);
        y.set(1, 4, 0);
        y.rule(1, 1);
        due("18: until the other is lighter", y.headroom(0), 2);
        RobustPacking z = new RobustPacking();
        z.add(5, 6, 0, 0);
        z.add(5, 4, 0, 0);
        z.conflict(0, 1);
        z.rule(1, 1);
        due("18: until the lower number is as light", z.headroom(1), 1);
        z.set(1, 2, 999);
        due("18: at 999", z.headroom(1), 0);
    }

    private static void promise19() {
        RobustPacking x = four();
        due("19: greedy(0)", x.greedy(0), 5);
        due("19: greedy(1)", x.greedy(1), 100010);
        due("19: greedy(2)", x.greedy(2), BAD_VALUE);
        due("19: greedy(-1)", x.greedy(-1), BAD_VALUE);
        x.conflict(0, 2);
        due("19: only allowed ones", x.greedy(0), 6);
        RobustPacking y = new RobustPacking();
        y.add(2, 2, 0, 0);
        y.add(1, 1, 0, 0);
        y.rule(0, 2);
        due("19: of equal ones the lower number", y.greedy(0), 1);
        RobustPacking z = new RobustPacking();
        z.add(997, 998, 0, 0);
        z.add(998, 999, 0, 0);
        z.rule(0, 999);
        due("19: exact fractions", z.greedy(0), 2);
        z.set(1, 2, 1);
        due("19: the deviation counts", z.greedy(0), 1);
        RobustPacking w = new RobustPacking();
        w.add(9, 1, 0, 0);
        w.add(1, 1, 0, 0);
        w.need(0, 1);
        due("19: an item is looked at once", w.greedy(0), 2);
    }

    private static void promise20() {
        RobustPacking x = four();
        due("20: with C", x.forced(4, 0, 0), 5);
        due("20: without A", x.forced(0, 1, 0), 8);
        due("20: its profit", x.forced(0, 1, 1), 100009);
        due("20: with C, without A and B", x.forced(4, 3, 0), 4);
        due("20: without all", x.forced(0, 15, 0), 0);
        due("20: without a set of none", x.forced(0, 0, 0), 3);
        due("20: too heavy", x.forced(9, 0, 0), NONE);
        due("20: too heavy for a profit", x.forced(9, 0, 1), NONE);
        due("20: forced(16, 0, 9)", x.forced(16, 0, 9), NO_SUCH);
        due("20: forced(0, 16, 0)", x.forced(0, 16, 0), NO_SUCH);
        due("20: forced(-1, 0, 0)", x.forced(-1, 0, 0), NO_SUCH);
        due("20: forced(0, -1, 0)", x.forced(0, -1, 0), NO_SUCH);
        due("20: forced(1, 1, 2)", x.forced(1, 1, 2), BAD_VALUE);
        due("20: forced(1, 1, -1)", x.forced(1, 1, -1), BAD_VALUE);
        due("20: forced(1, 3, 0)", x.forced(1, 3, 0), NOT_POSSIBLE);
        x.need(0, 1);
        due("20: what is needed is forbidden", x.forced(1, 2, 0), NONE);
    }

    private static void promise21() {
        RobustPacking x = four();
        int[] capacities = {0, 7, 10, 11, 12, 15, 20, 21, 24};
        int[] profits = {0, 8, 9, 10, 14, 18, 20, 24, 28};
        int[] choices = {0, 2, 8, 5, 3, 7, 13, 11, 15};
        for (int what = 0; what < 3; what++) {
            due("21: frontier(-1, " + what + ")", x.frontier(-1, what), 9);
            due("21: frontier(9, " + what + ")", x.frontier(9, what), NONE);
            due("21: frontier(-2, " + what + ")", x.frontier(-2, what), NONE);
        }
        for (int i = 0; i < capacities.length; i++) {
            due("21: frontier(" + i + ", 0)", x.frontier(i, 0), capacities[i]);
            due("21: frontier(" + i + ", 1)", x.frontier(i, 1), 100000 + profits[i]);
            due("21: frontier(" + i + ", 2)", x.frontier(i, 2), choices[i]);
        }
        due("21: frontier(0, 3)", x.frontier(0, 3), BAD_VALUE);
        due("21: frontier(-1, 3)", x.frontier(-1, 3), BAD_VALUE);
        due("21: frontier(-2, -1)", x.frontier(-2, -1), BAD_VALUE);
        due("21: frontier(HIGH, 0)", x.frontier(HIGH, 0), NONE);
        x.conflict(0, 1);
        due("21: only allowed ones", x.frontier(4, 0), 16);
        RobustPacking y = equalOnes(2);
        y.add(10, 4, 0, 0);
        y.conflict(0, 1);
        due("21: of equal ones the least", y.frontier(1, 2), 1);
        RobustPacking z = new RobustPacking();
        for (int i = 0; i < 12; i++) {
            z.add(1, 999, 999, 0);
        }
        due("21: up to 9999", z.frontier(-1, 0), 11);
        due("21: the last one", z.frontier(10, 0), 9990);
        z.rule(1, 12);
        due("21: heavier ones", z.frontier(-1, 0), 6);
    }

    private static void promise22() {
        RobustPacking x = four();
        due("22: improve(0, 0)", x.improve(0, 0), 8);
        due("22: improve(0, 1)", x.improve(0, 1), 1);
        due("22: improve(4, 0)", x.improve(4, 0), 3);
        due("22: improve(4, 1)", x.improve(4, 1), 2);
        due("22: improve(3, 0)", x.improve(3, 0), 3);
        due("22: improve(3, 1)", x.improve(3, 1), 0);
        due("22: improve(7, 0)", x.improve(7, 0), NOT_POSSIBLE);
        due("22: improve(7, 2)", x.improve(7, 2), BAD_VALUE);
        due("22: improve(0, -1)", x.improve(0, -1), BAD_VALUE);
        due("22: improve(16, 2)", x.improve(16, 2), NO_SUCH);
        due("22: improve(-1, 0)", x.improve(-1, 0), NO_SUCH);
        x.conflict(0, 1);
        due("22: not allowed", x.improve(3, 0), NOT_POSSIBLE);
        RobustPacking y = new RobustPacking();
        y.add(5, 3, 0, 0);
        y.add(5, 2, 0, 0);
        y.rule(0, 3);
        due("22: lighter", y.improve(1, 0), 2);
        due("22: in one step", y.improve(1, 1), 1);
        y.set(0, 1, 2);
        due("22: a lower number", y.improve(2, 0), 1);
        RobustPacking z = new RobustPacking();
        z.add(5, 1, 0, 9);
        z.add(5, 1, 0, 0);
        z.rule(2, 1);
        due("22: one is taken out", z.improve(3, 0), 2);
    }

    private static void promise23() {
        RobustPacking x = four();
        int[][] lists = {{0}, {0, 1}, {0, 2, 1, 3}, {0, 4, 2, 1, 6, 5, 3}, {0, 4, 2, 1, 6, 5, 3}};
        x.conflict(0, 1);
        x.need(2, 3);
        for (int level = 0; level < lists.length; level++) {
            due("23: list(" + level + ", -1)", x.list(level, -1), lists[level].length);
            due("23: list(" + level + ", -2)", x.list(level, -2), NONE);
            due("23: list(" + level + ", end)", x.list(level, lists[level].length), NONE);
            for (int i = 0; i < lists[level].length; i++) {
                due("23: list(" + level + ", " + i + ")", x.list(level, i), lists[level][i]);
            }
        }
        due("23: list(5, 0)", x.list(5, 0), NO_SUCH);
        due("23: list(-1, -2)", x.list(-1, -2), NO_SUCH);
        due("23: list(HIGH, 0)", x.list(HIGH, 0), NO_SUCH);
        x.rule(0, 11);
        due("23: only what fits", x.list(2, -1), 3);
        x.rule(0, 0);
        due("23: the empty choice", x.list(4, -1), 1);
        RobustPacking y = equalOnes(2);
        due("23: of equal ones the least", y.list(2, 1), 1);
        due("23: three states", y.list(2, -1), 3);
    }

    private static void promise24() {
        RobustPacking x = four();
        due("24: D", x.dominator(4, 8), 1);
        due("24: in the list", x.dominator(3, 1), NONE);
        due("24: just as heavy as the capacity", x.dominator(4, 3), NONE);
        due("24: the empty choice with others", x.dominator(4, 0), NONE);
        due("24: the empty choice", x.dominator(0, 0), NONE);
        due("24: too heavy", x.dominator(4, 12), NOT_POSSIBLE);
        due("24: an item above the level", x.dominator(3, 8), NO_SUCH);
        due("24: dominator(5, 0)", x.dominator(5, 0), NO_SUCH);
        due("24: dominator(-1, 0)", x.dominator(-1, 0), NO_SUCH);
        due("24: dominator(4, -1)", x.dominator(4, -1), NO_SUCH);
        x.rule(0, 9999);
        // The list of level 4 then, with protected weights and plain profits:
        // 0, C 3/6, B 7/8, A 8/10, BC 10/14, AC 11/16, AB 12/18, ABC 15/24, ACD 20/26, ABD 21/28, ABCD 24/34.
        due("24: BD, dominated by AB", x.dominator(4, 10), 3);
        due("24: CD, dominated by AC first", x.dominator(4, 12), 5);
        due("24: BCD, dominated by ABC", x.dominator(4, 14), 7);
        RobustPacking y = equalOnes(3);
        due("24: the same weight and profit", y.dominator(2, 2), 1);
        due("24: two of three", y.dominator(3, 6), 3);
    }

    private static void promise25() {
        RobustPacking x = four();
        int[] thresholds = {3, 1, 0};
        due("25: threshold(-1)", x.threshold(-1), 3);
        for (int i = 0; i < thresholds.length; i++) {
            due("25: threshold(" + i + ")", x.threshold(i), thresholds[i]);
        }
        due("25: threshold(3)", x.threshold(3), NONE);
        due("25: threshold(-2)", x.threshold(-2), NONE);
        due("25: threshold(HIGH)", x.threshold(HIGH), NONE);
        RobustPacking y = new RobustPacking();
        due("25: 0 without items", y.threshold(0), 0);
        y.add(1, 1, 1, 0);
        due("25: 1 and 0", y.threshold(-1), 2);
        y.remove(0);
        for (int i = 0; i < 12; i++) {
            y.add(1, 1, 988 + i, 0);
        }
        due("25: thirteen", y.threshold(-1), 13);
        due("25: the greatest", y.threshold(0), 999);
        due("25: the least deviation", y.threshold(11), 988);
        due("25: the 0", y.threshold(12), 0);
        due("25: threshold(13)", y.threshold(13), NONE);
    }

    private static void promise26() {
        RobustPacking x = four();
        due("26: plain(0)", x.plain(0), 18);
        due("26: plain(1)", x.plain(1), 16);
        due("26: plain(2)", x.plain(2), 16);
        due("26: plain(3)", x.plain(3), NO_SUCH);
        due("26: plain(-1)", x.plain(-1), NO_SUCH);
        due("26: plain(LOW)", x.plain(LOW), NO_SUCH);
        x.conflict(0, 1);
        due("26: only allowed ones", x.plain(0), 16);
        x.rule(1, 4);
        due("26: capacity 0", x.plain(0), 0);
        x.rule(1, 5);
        due("26: below 0", x.plain(0), NONE);
        due("26: but not for 1", x.plain(1), 10);
    }

    private static void promise27() {
        RobustPacking x = four();
        due("27: none taken out", x.recovered(7, 1, 0), NONE);
        due("27: one taken out", x.recovered(7, 1, 1), 18);
        due("27: no deviation", x.recovered(7, 4, 0), 24);
        due("27: outside of the choice", x.recovered(7, 8, 0), 24);
        due("27: what is outside counts", x.recovered(7, 12, 0), NOT_POSSIBLE);
        due("27: too many", x.recovered(7, 3, 0), NOT_POSSIBLE);
        due("27: recovered(7, 3, 13)", x.recovered(7, 3, 13), BAD_VALUE);
        due("27: recovered(7, 0, -1)", x.recovered(7, 0, -1), BAD_VALUE);
        due("27: recovered(16, 0, 13)", x.recovered(16, 0, 13), NO_SUCH);
        due("27: recovered(0, 16, 0)", x.recovered(0, 16, 0), NO_SUCH);
        due("27: recovered(-1, 0, 0)", x.recovered(-1, 0, 0), NO_SUCH);
        due("27: recovered(0, -1, 0)", x.recovered(0, -1, 0), NO_SUCH);
        due("27: all four, one out", x.recovered(15, 0, 1), 24);
        due("27: all four, twelve can go", x.recovered(15, 1, 12), 18);
        due("27: the empty choice", x.recovered(0, 1, 0), 0);
        x.need(0, 2);
        due("27: the rest has to be allowed", x.recovered(7, 1, 1), 16);
        x.rule(0, 4);
        due("27: two of three have to go", x.recovered(7, 1, 1), NONE);
        due("27: they go", x.recovered(7, 1, 2), 8);
    }

    private static void promise28() {
        RobustPacking x = four();
        due("28: the least profit", x.adversary(7, 1, 0), 18);
        due("28: its scenario", x.adversary(7, 1, 1), 1);
        due("28: lost", x.adversary(7, 0, 0), NONE);
        due("28: lost in", x.adversary(7, 0, 1), 1);
        due("28: always the same", x.adversary(6, 0, 0), 14);
        due("28: twelve can go", x.adversary(7, 12, 0), 18);
        due("28: then the empty scenario", x.adversary(6, 0, 1), 0);
        due("28: lost in any", x.adversary(15, 0, 1), 0);
        x.rule(0, 9);
        due("28: a later scenario", x.adversary(6, 1, 0), 8);
        due("28: it is B", x.adversary(6, 1, 1), 2);
        due("28: lost in B", x.adversary(6, 0, 1), 2);
        due("28: adversary(16, 13, 2)", x.adversary(16, 13, 2), NO_SUCH);
        due("28: adversary(-1, 0, 0)", x.adversary(-1, 0, 0), NO_SUCH);
        due("28: adversary(0, 13, 0)", x.adversary(0, 13, 0), BAD_VALUE);
        due("28: adversary(0, -1, 0)", x.adversary(0, -1, 0), BAD_VALUE);
        due("28: adversary(0, 0, 2)", x.adversary(0, 0, 2), BAD_VALUE);
        due("28: adversary(0, 0, -1)", x.adversary(0, 0, -1), BAD_VALUE);
        RobustPacking y = new RobustPacking();
        y.add(3, 1, 5, 0);
        y.add(4, 1, 5, 0);
        y.rule(0, 7);
        y.rule(1, 2);
        due("28: both deviate", y.adversary(3, 1, 0), 4);
        due("28: both are the scenario", y.adversary(3, 1, 1), 3);
        y.rule(1, 1);
        due("28: only one deviates", y.adversary(3, 1, 0), 7);
    }

    private static void promise29() {
        RobustPacking x = four();
        due("29: seven calls", x.count(7), 7);
        x.set(0, 4, 1);
        x.conflict(0, 1);
        x.need(2, 3);
        x.remove(0);
        due("29: remove undone", x.undo(), 10);
        due("29: conflict is back", x.item(1, 5), 1);
        due("29: need is back", x.item(3, 7), 4);
        due("29: group is back", x.item(0, 4), 1);
        due("29: need undone", x.undo(), 9);
        due("29: no need", x.count(5), 0);
        due("29: conflict undone", x.undo(), 8);
        due("29: no conflict", x.count(4), 0);
        due("29: set undone", x.undo(), 7);
        due("29: no group", x.item(0, 4), NONE);
        for (int property = 0; property < 5; property++) {
            int previous = x.item(1, property);
            x.set(1, property, 3);
            due("29: undo of property " + property, x.undo(), 7);
            due("29: property " + property, x.item(1, property), previous);
        }
        due("29: rule undone", x.undo(), 6);
        due("29: H", x.count(3), 0);
        due("29: the best one follows", x.best(1), 100018);
        x.undo();
        x.undo();
        due("29: capacity", x.count(1), 1000);
        due("29: add undone", x.undo(), 3);
        due("29: three items", x.count(0), 3);
        x.set(9, 0, 1);
        x.rule(0, -1);
        x.best(0);
        x.headroom(0);
        write(x, "1/1");
        due("29: what fails or only looks is not kept", x.count(7), 3);
        x.undo();
        x.undo();
        due("29: the last one", x.undo(), 0);
        due("29: none", x.undo(), NOT_POSSIBLE);
        due("29: the pad stays", x.count(6), 3);
        for (int i = 0; i < 20; i++) {
            x.rule(0, i);
            due("29: kept " + i, x.count(7), Math.min(i + 1, 12));
        }
        for (int i = 11; i >= 0; i--) {
            due("29: undo to " + i, x.undo(), i);
            due("29: the setting then", x.count(1), 7 + i);
        }
        due("29: older ones are dropped", x.undo(), NOT_POSSIBLE);
        due("29: the same value is a call, too", x.rule(0, 7) + x.count(7), 8);
    }

    private static void promise30() {
        RobustPacking x = four();
        x.conflict(0, 1);
        x.conflict(3, 1);
        x.need(0, 1);
        x.need(1, 0);
        x.need(2, 0);
        write(x, "12345");
        x.rule(2, 9);
        int[] answers = {4, 12, 1, 9, 2, 3, 5, 12};
        for (int what = 0; what < answers.length; what++) {
            due("30: count(" + what + ")", x.count(what), answers[what]);
        }
        due("30: count(8)", x.count(8), BAD_VALUE);
        due("30: count(-1)", x.count(-1), BAD_VALUE);
    }

    /** Promises for as many items as there can be: each has profit 1, weight 1, and can weigh 2. */
    private static void twelveItems() {
        RobustPacking x = new RobustPacking();
        for (int i = 0; i < 12; i++) {
            x.add(1, 1, 1, 0);
        }
        x.rule(1, 12);
        x.rule(2, 12);
        due("all: choice(4095, 0)", x.choice(4095, 0), 12);
        due("all: choice(4095, 1)", x.choice(4095, 1), 24);
        due("all: choice(4095, 6)", x.choice(4095, 6), 4095);
        due("all: choice(4096, 0)", x.choice(4096, 0), NO_SUCH);
        due("all: best(0)", x.best(0), 4095);
        due("all: best(6)", x.best(6), 4096);
        due("all: bestWith(11, 1, 1)", x.bestWith(11, 1, 1), 100010);
        due("all: leastCapacity(12)", x.leastCapacity(12), 24);
        due("all: greedy(0)", x.greedy(0), 4095);
        due("all: forced(2048, 2047, 0)", x.forced(2048, 2047, 0), 2048);
        due("all: frontier(-1, 0)", x.frontier(-1, 0), 13);
        due("all: frontier(12, 2)", x.frontier(12, 2), 4095);
        due("all: improve(0, 0)", x.improve(0, 0), 4095);
        due("all: improve(0, 1)", x.improve(0, 1), 12);
        due("all: list(12, -1)", x.list(12, -1), 13);
        due("all: list(12, 3)", x.list(12, 3), 7);
        due("all: list(12, 12)", x.list(12, 12), 4095);
        due("all: list(13, 0)", x.list(13, 0), NO_SUCH);
        due("all: dominator(12, 2048)", x.dominator(12, 2048), 1);
        due("all: threshold(-1)", x.threshold(-1), 2);
        due("all: plain(0)", x.plain(0), 12);
        x.rule(0, 25);
        due("all: headroom(0)", x.headroom(0), 1);
        due("all: headroom(11)", x.headroom(11), 1);
        x.rule(0, 18);
        due("all: recovered(4095, 4095, 12)", x.recovered(4095, 4095, 12), 9);
        due("all: recovered(4095, 4095, 2)", x.recovered(4095, 4095, 2), NONE);
        due("all: adversary(4095, 12, 0)", x.adversary(4095, 12, 0), 9);
        due("all: adversary(4095, 12, 1)", x.adversary(4095, 12, 1), 2047);
        x.need(11, 0);
        x.conflict(10, 11);
        due("all: item(0, 7)", x.item(0, 7), 2048);
        due("all: best(0) then", x.best(0), 511);
        due("all: remove(0)", x.remove(0), 11);
        due("all: item(9, 5)", x.item(9, 5), 1024);
    }

    /** What has been removed plays no part any more, though it was the best. */
    private static void removedItems() {
        RobustPacking x = new RobustPacking();
        x.add(1, 5, 1, 0);
        x.add(9, 1, 0, 0);
        due("gone: best(0)", x.best(0), 3);
        due("gone: plain(0)", x.plain(0), 10);
        x.remove(1);
        due("gone: best(0) then", x.best(0), 1);
        due("gone: best(3) then", x.best(3), 1);
        due("gone: best(6) then", x.best(6), 2);
        due("gone: leastCapacity(1)", x.leastCapacity(1), 5);
        due("gone: leastCapacity(9)", x.leastCapacity(9), NONE);
        due("gone: improve(0, 0)", x.improve(0, 0), 1);
        due("gone: plain(0) then", x.plain(0), 1);
        due("gone: frontier(-1, 0)", x.frontier(-1, 0), 2);
        due("gone: list(1, -1)", x.list(1, -1), 2);
        due("gone: choice(2, 0)", x.choice(2, 0), NO_SUCH);
        x.undo();
        due("gone: best(0) again", x.best(0), 3);
    }

    public static void main(String[] args) {
        promise1();
        promise2();
        promise3();
        promise4();
        promise5();
        promise6();
        promise7();
        promise8();
        promise9();
        promise10();
        promise11();
        promise12();
        promise13();
        promise14();
        promise15();
        promise16();
        promise17();
        promise18();
        promise19();
        promise20();
        promise21();
        promise22();
        promise23();
        promise24();
        promise25();
        promise26();
        promise27();
        promise28();
        promise29();
        promise30();
        twelveItems();
        removedItems();
        end("all promises are as due");
    }
}
