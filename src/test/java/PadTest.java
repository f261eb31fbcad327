/** The boundary cases of the pad: promises 9 to 12. */
public final class PadTest extends Due {
    private static final String DIGITS = "0123456789";
    private static final String FROM_ONE = "123456789";
    /** Just 80 characters, five items. */
    private static final String FULL = "999/999+999-999@3;".repeat(4) + "1/1+1-10";

    // ---- promise 9

    /** "a code is not 33 to 126": every code, at every place of every length. */
    private static void everyCode() {
        for (int length = 1; length <= 8; length++) {
            for (int place = 0; place < length; place++) {
                RobustPacking x = new RobustPacking();
                for (int code = 0; code < 256; code++) {
                    long characters = pack("/".repeat(length)) & ~(255L << 8 * place) | (long) code << 8 * place;
                    boolean good = code >= 33 && code <= 126;
                    // A 0 in the highest place only makes the text shorter.
                    int shorter = code == 0 && place == length - 1 ? length - 1 : 0;
                    int want = good ? length : shorter > 0 ? shorter : BAD_VALUE;
                    due("code " + code + " at " + place + " of " + length, x.put(characters), want);
                    if (want > 0) {
                        due("code " + code + " is there", x.wipe(), want);
                    }
                }
            }
        }
    }

    /** "8 bits that are 0 mean that there are no more characters, and everything above them has to be 0, too" */
    private static void bitsAboveTheEnd() {
        RobustPacking x = new RobustPacking();
        for (int length = 0; length < 7; length++) {
            for (int bit = 8 * length + 8; bit < 64; bit++) {
                long characters = pack("1/1;1/1".substring(0, length)) | 1L << bit;
                due("bit " + bit + " above " + length, x.put(characters), BAD_VALUE);
            }
        }
        due("no character", x.put(0), BAD_VALUE);
        due("all bits", x.put(-1), BAD_VALUE);
        due("the least long", x.put(Long.MIN_VALUE), BAD_VALUE);
        due("the greatest long", x.put(Long.MAX_VALUE), BAD_VALUE);
        due("the least long with a character", x.put(Long.MIN_VALUE | 49), BAD_VALUE);
        due("the least int", x.put(LOW), BAD_VALUE);
        due("the greatest int", x.put(HIGH), BAD_VALUE);
        due("a character above a 0", x.put(pack("1") << 8), BAD_VALUE);
        due("eight, the last a 0", x.put(pack("1234567") << 8), BAD_VALUE);
        due("nothing was put", x.count(6), 0);
        due("the lowest eight", x.put(0x2121212121212121L), 8);
        due("the highest eight", x.put(0x7E7E7E7E7E7E7E7EL), 16);
    }

    /** "its lowest 8 bits are the last character": texts of 1 to 8 characters, read as items. */
    private static void orderOfCharacters() {
        String[] texts = {"12/34", "123/45", "123/456", "12/34+56"};
        int[][] items = {{12, 34, 0}, {123, 45, 0}, {123, 456, 0}, {12, 34, 56}};
        for (int i = 0; i < texts.length; i++) {
            for (int cut = 1; cut < texts[i].length(); cut++) {
                RobustPacking x = new RobustPacking();
                x.put(pack(texts[i].substring(0, cut)));
                due("length of " + texts[i], x.put(pack(texts[i].substring(cut))), texts[i].length());
                due("load of " + texts[i], x.load(), 1);
                for (int property = 0; property < 3; property++) {
                    due(texts[i] + " cut at " + cut, x.item(0, property), items[i][property]);
                }
            }
        }
        due("eight at once", new RobustPacking().put(pack("12/34+56")), 8);
        due("one", new RobustPacking().put(49), 1);
    }

    /** "TOO_MANY if the pad would be longer than 80": with each number of characters. */
    private static void fullPad() {
        for (int length = 1; length <= 8; length++) {
            String text = "/".repeat(length);
            RobustPacking x = written("1".repeat(80 - length));
            due("up to 80 with " + length, x.put(pack(text)), 80);
            for (int more = 1; more <= 8; more++) {
                due("80 and " + more, x.put(pack("/".repeat(more))), TOO_MANY);
            }
            due("80 and a bad one", x.put(32), BAD_VALUE);
            due("80 and none", x.put(0), BAD_VALUE);
            due("still 80", x.count(6), 80);
            RobustPacking y = written("1".repeat(81 - length));
            due("up to 81 with " + length, y.put(pack(text)), TOO_MANY);
            due("still the same", y.count(6), 81 - length);
            due("up to 81 with a bad one", y.put(pack(text) & ~255L | 32), BAD_VALUE);
            if (length > 1) {
                due("one less", y.put(pack(text.substring(1))), 80);
            }
        }
        RobustPacking x = written(FULL);
        due("full: a character is refused", x.put(pack("1")), TOO_MANY);
        due("full: the text stays", x.load(), 5);
        due("full: its last number", x.item(4, 3), 10);
    }

    // ---- promise 10

    private static void wiping() {
        RobustPacking x = new RobustPacking();
        due("wipe() of nothing", x.wipe(), 0);
        x.put(49);
        due("wipe() of one", x.wipe(), 1);
        due("wipe() then", x.wipe(), 0);
        write(x, FULL);
        due("wipe() of all", x.wipe(), 80);
        due("nothing is there", x.count(6), 0);
        due("there is room again", x.put(pack("1/1;2/2+")), 8);
        due("what was wiped is not read", x.fault(), 8);
        x.put(pack("3"));
        due("the new text", x.load(), 2);
        due("load() has emptied it", x.wipe(), 0);
        due("items stay", x.count(0), 2);
    }

    // ---- promise 11

    /**
     * Behind a beginning, every character is put once: those of 'going' and 'ending' can stand there,
     * and behind those of 'ending' the text may end. Nothing behind a fault matters.
     */
    private static void places(String beginning, String going, String ending) {
        String[] before = {"", "1/1;", "999/999+999-999@3;", "1/1+0;1/1-0;1/1@0;"};
        for (String earlier : before) {
            String text = earlier + beginning;
            for (char c = 33; c <= 126; c++) {
                int fault = text.length();
                if (ending.indexOf(c) >= 0) {
                    fault = NONE;
                } else if (going.indexOf(c) >= 0) {
                    fault++;
                }
                due("fault of " + text + c, written(text + c).fault(), fault);
                if (fault == text.length()) {
                    due("fault of " + text + c + "1/1", written(text + c + "1/1").fault(), fault);
                }
            }
        }
    }

    /** The grammar, place by place. */
    private static void everyPlace() {
        places("", FROM_ONE, "");
        places("1", DIGITS + "/", "");
        places("90", DIGITS + "/", "");
        places("900", "/", "");
        places("1/", "", FROM_ONE);
        places("999/", "", FROM_ONE);
        places("1/1", "+-@;", DIGITS);
        places("1/90", "+-@;", DIGITS);
        places("1/900", "+-@;", "");
        places("1/1+", "", DIGITS);
        places("1/1+0", "-@;", "");
        places("1/1+9", "-@;", DIGITS);
        places("1/1+10", "-@;", DIGITS);
        places("1/1+100", "-@;", "");
        places("1/1-", "", DIGITS);
        places("1/1-0", "@;", "");
        places("1/1-9", "@;", DIGITS);
        places("1/1-10", "@;", DIGITS);
        places("1/1-100", "@;", "");
        places("1/1+0-", "", DIGITS);
        places("1/1+1-0", "@;", "");
        places("1/1+1-1", "@;", DIGITS);
        places("1/1+100-100", "@;", "");
        places("1/1@", "", "0123");
        places("1/1+1@", "", "0123");
        places("1/1-1@", "", "0123");
        places("1/1+1-1@", "", "0123");
        places("1/1@0", ";", "");
        places("1/1+1-1@3", ";", "");
        places("1/1;", FROM_ONE, "");
    }

    /** "if there is none and the text ends too early (also if it is empty), it is the length of the text" */
    private static void earlyEnds() {
        String text = "12/34+56-78@2;9/9";
        boolean[] may = new boolean[text.length() + 1];
        int[] ends = {4, 5, 7, 8, 10, 11, 13, 17};
        for (int end : ends) {
            may[end] = true;
        }
        for (int length = 0; length <= text.length(); length++) {
            RobustPacking x = written(text.substring(0, length));
            due("fault of " + text.substring(0, length), x.fault(), may[length] ? NONE : length);
            due("the pad stays", x.count(6), length);
        }
    }

    private static void longTexts() {
        String twenty = "1/1;".repeat(19) + "1/1";
        due("79 characters, twenty items", written(twenty).fault(), NONE);
        due("the 80th is a digit", written(twenty + "1").fault(), NONE);
        due("the 80th ends too early", written(twenty + ";").fault(), 80);
        due("the 80th ends too early, behind +", written(twenty + "+").fault(), 80);
        due("the 80th cannot stand there", written(twenty + "/").fault(), 79);
        due("80 characters", written(FULL).fault(), NONE);
        due("one digit more is not there", written(FULL + "0").fault(), NONE);
        due("80 characters, a fault at last", written(FULL.substring(0, 79) + "x").fault(), 79);
        due("80 digits", written("1".repeat(80)).fault(), 3);
        due("80 faults", written("~".repeat(80)).fault(), 0);
        due("no text was too long", written(FULL + "0").count(6), 80);
    }

    // ---- promise 12

    /** The least and the greatest numbers, and what is not told. */
    private static void loadedNumbers() {
        String[] texts = {"1/1", "999/999+999-999@3", "1/1+0-0@0", "10/100", "1/1-7", "1/1@2", "1/1+9@1", "1/1-9@1", "100/10+10-100"};
        int[][] items = {{1, 1, 0, 0, NONE}, {999, 999, 999, 999, 3}, {1, 1, 0, 0, 0}, {10, 100, 0, 0, NONE}, {1, 1, 0, 7, NONE},
            {1, 1, 0, 0, 2}, {1, 1, 9, 0, 1}, {1, 1, 0, 9, 1}, {100, 10, 10, 100, NONE}};
        for (int i = 0; i < texts.length; i++) {
            // Behind an item with everything, what is not told must not be left over from it.
            RobustPacking x = written("2/3+4-5@1;" + texts[i]);
            due("load of " + texts[i], x.load(), 2);
            for (int property = 0; property < 5; property++) {
                due(texts[i] + ", property " + property, x.item(1, property), items[i][property]);
            }
            for (int property = 5; property < 8; property++) {
                due(texts[i] + ", property " + property, x.item(1, property), 0);
            }
        }
        RobustPacking x = written("2/3+4-5@1;2/3+4-5@1");
        x.load();
        write(x, "7/8");
        x.load();
        due("nothing is left over from the last load", x.item(2, 2) + x.item(2, 3), 0);
        due("no group either", x.item(2, 4), NONE);
    }

    /** "TOO_MANY if there would be more than 12 items": for each number of items before. */
    private static void loadedUpToTwelve() {
        for (int before = 0; before <= 12; before++) {
            RobustPacking x = equalOnes(before);
            int room = 12 - before;
            write(x, "1/1;".repeat(room) + "1/1");
            due("one too many behind " + before, x.load(), TOO_MANY);
            due("none came", x.count(0), before);
            due("the pad stays", x.count(6), 4 * room + 3);
            due("the history stays", x.count(7), before);
            x.wipe();
            if (room > 0) {
                write(x, "1/1;".repeat(room - 1) + "1/1");
                due("just twelve behind " + before, x.load(), room);
                due("twelve", x.count(0), 12);
                due("the pad is empty", x.count(6), 0);
                due("one call more", x.count(7), Math.min(before + 1, 12));
            }
        }
        RobustPacking x = written("1/1;".repeat(19) + "1/1");
        due("twenty", x.load(), TOO_MANY);
        x.put(pack("x"));
        due("twenty with a fault", x.load(), BAD_TEXT);
        RobustPacking full = equalOnes(12);
        due("full: no text", full.load(), BAD_TEXT);
        write(full, "1/1");
        due("full: one", full.load(), TOO_MANY);
        full.remove(3);
        due("full: a place is free", full.load(), 1);
    }

    /** "BAD_TEXT if the pad has a fault": it stays, and can be completed. */
    private static void loadedWithFault() {
        RobustPacking x = new RobustPacking();
        due("load of nothing", x.load(), BAD_TEXT);
        write(x, "3/4;5/6;");
        due("load of what ends too early", x.load(), BAD_TEXT);
        due("no item", x.count(0), 0);
        due("no call", x.count(7), 0);
        due("the pad stays", x.count(6), 8);
        x.put(pack("7/8"));
        due("load of the whole", x.load(), 3);
        due("the first", x.item(0, 1), 4);
        due("the last", x.item(2, 1), 8);
        due("load again", x.load(), BAD_TEXT);
        due("still three", x.count(0), 3);
    }

    public static void main(String[] args) {
        everyCode();
        bitsAboveTheEnd();
        orderOfCharacters();
        fullPad();
        wiping();
        everyPlace();
        earlyEnds();
        longTexts();
        loadedNumbers();
        loadedUpToTwelve();
        loadedWithFault();
        end("the pad is as due");
    }
}
