/** The terms TEXTS, HISTORY and ERRORS of the document, sentence by sentence, each at its edges. */
public final class TextTermsTest {
    private static final int UNKNOWN = -1;
    private static final int BAD_VALUE = -2;
    private static final int FULL = -3;
    private static final int NOT_POSSIBLE = -4;
    private static final int NONE = -5;
    private static final String[] WORDS = {"scratch", "polish", "seek", "play", "press"};
    /** One whole order of each word. */
    private static final String[] ORDERS = {"scratch=9-35@0-2", "polish=0", "seek=12", "play=34", "press=56.1:2"};

    private static final Due DUE = new Due();
    private static final Doc DOC = new Doc(DUE);

    public static void main(String[] args) {
        DOC.section("TEXTS", "HISTORY");
        sixtyCharacters();
        oneOrMoreOrders();
        wordThenEquals();
        scratchOrders();
        polishOrders();
        seekOrders();
        playOrders();
        pressOrders();
        anglesAndTurns();
        noZeroInFront();
        noGreaterNumbers();
        faultIsTheFirst();
        lettersOfWords();
        endsTooEarly();
        emptyText();
        DOC.end();
        DOC.section("HISTORY", "ERRORS");
        atMostFourStates();
        oldestIsDropped();
        undoTakesTheLatest();
        actsRecord();
        actsThatAnswerNullRecord();
        errorsRecordNothing();
        oneSnapshot();
        allButTextHistoryAndSnapshot();
        DOC.end();
        DOC.section("ERRORS", "Ahead of the calls `press`");
        constants();
        orderOfChecks();
        noneOnlyWithoutError();
        nothingIsChanged();
        DOC.end();
        DUE.close();
    }

    private static void due(String call, long got, long want) {
        DUE.due(call, got, want);
    }

    private static void dueFault(String text, int want) {
        due("fault of \"" + text + "\"", Discs.typed(text).fault(), want);
    }

    /** All that ends ahead of its last sign ends too early, or is whole; behind it an "x" is not allowed. */
    private static void dueWhole(String... texts) {
        for (String text : texts) {
            dueFault(text, NONE);
            dueFault(text + "x", text.length());
            dueFault(text + " ", text.length());
            dueFault(text + ";", text.length() + 1);
        }
    }

    // ---- TEXTS

    private static void sixtyCharacters() {
        DOC.says("There is a text of at most 60 characters, empty at first.");
        LineDisc x = new LineDisc();
        due("length at first", x.count(16), 0);
        String whole = "scratch=100-200@10-19;scratch=100-200@10-19;play=10;polish=0";
        for (int i = 0; i < 60; i++) {
            due("type " + i, x.type(whole.charAt(i)), i + 1);
        }
        due("the 61st", x.type(';'), FULL);
        due("length", x.count(16), 60);
        due("the 60 are read", x.fault(), NONE);
        due("the 60 are done", x.doAll(), 4);
        due("clear", x.clearText(), 60);
        due("room again", x.type('s'), 1);
    }

    private static void oneOrMoreOrders() {
        DOC.says("A text of orders is one or more orders with \";\" between two:");
        dueFault("", 0);
        dueFault(";", 0);
        dueFault("seek=0", NONE);
        dueFault("seek=0;", 7);
        dueFault("seek=0;;", 7);
        dueFault(";seek=0", 0);
        dueFault("seek=0;seek=0", NONE);
        dueFault("seek=0;;seek=0", 7);
        dueFault("seek=0,seek=0", 6);
        dueFault("seek=0 ;seek=0", 6);
        dueFault("seek=0; seek=0", 7);
        dueFault("seek=0seek=0", 6);
        String most = "play=1;play=2;play=3;play=4;play=5;play=6;play=7;play=8";
        dueFault(most, NONE);
        LineDisc x = Discs.typed(most);
        due("eight orders", x.doAll(), 8);
        due("frames read", x.count(7), 36);
        for (String first : ORDERS) {
            for (String second : ORDERS) {
                dueFault(first + ";" + second, NONE);
            }
        }
    }

    private static void wordThenEquals() {
        DOC.says("a word, \"=\", and what belongs to it:");
        for (String word : WORDS) {
            dueFault(word, word.length());
            dueFault(word + "=", word.length() + 1);
            dueFault(word + "==", word.length() + 1);
            dueFault(word + ":", word.length());
            dueFault(word + "0", word.length());
            dueFault(word + " =0", word.length());
            dueFault(word + word.charAt(0), word.length());
            dueFault(word + "=;", word.length() + 1);
            dueFault(word + "=-", word.length() + 1);
            dueFault(word + "=x", word.length() + 1);
        }
    }

    private static void scratchOrders() {
        DOC.says("\"scratch\" with an angle, \"-\", an angle, \"@\", a turn, \"-\", a turn;");
        dueWhole("scratch=0-0@0-0", "scratch=359-359@29-29", "scratch=300-10@20-3");
        dueFault("scratch=0@", 9);
        dueFault("scratch=0-0-", 11);
        dueFault("scratch=0-0@0@", 13);
        dueFault("scratch=0--", 10);
        dueFault("scratch=0-0@0-0-", 15);
        dueFault("scratch=0-0;", 11);
        LineDisc x = Discs.typed("scratch=12-345@6-28");
        due("done", x.doAll(), 1);
        int[] parts = {12, 345, 6, 28};
        for (int i = 0; i < 4; i++) {
            due("part " + i, x.scratchOf(0, i), parts[i]);
        }
        // an order may be whole that the method refuses
        due("angles the other way round", Discs.typed("scratch=10-9@0-0").doAll(), BAD_VALUE);
        due("turns the other way round", Discs.typed("scratch=9-9@1-0").doAll(), BAD_VALUE);
    }

    private static void polishOrders() {
        DOC.says("\"polish\" with a digit;");
        for (int digit = 0; digit <= 9; digit++) {
            dueWhole("polish=" + digit);
            dueFault("polish=" + digit + "0", 8);
        }
        dueFault("polish=" + (char) ('0' - 1), 7);
        dueFault("polish=" + (char) ('9' + 1), 7);
        LineDisc x = Discs.scratched(0, 1);
        Due.typeAll(x, "polish=1");
        due("done", x.doAll(), 1);
        due("the other one stays", x.scratchOf(0, 0), 0);
        due("8 is a digit, but no scratch", Discs.typed("polish=8").doAll(), UNKNOWN);
    }

    private static void seekOrders() {
        DOC.says("\"seek\" with a frame (0 to 9999);");
        dueWhole("seek=0", "seek=9", "seek=10", "seek=999", "seek=1000", "seek=9999");
        dueFault("seek=10000", 9);
        dueFault("seek=99999", 9);
        dueFault("seek=-1", 5);
        LineDisc x = Discs.typed("seek=1469");
        due("done", x.doAll(), 1);
        due("frame", x.count(3), 1469);
        due("9999 is no frame of the disc", Discs.typed("seek=9999").doAll(), UNKNOWN);
        due("1470 is no frame of the disc", Discs.typed("seek=1470").doAll(), UNKNOWN);
    }

    private static void playOrders() {
        DOC.says("\"play\" with a number of frames (1 to 999);");
        dueWhole("play=1", "play=9", "play=10", "play=100", "play=999");
        dueFault("play=0", 5);
        dueFault("play=1000", 8);
        LineDisc x = Discs.typed("play=999");
        due("done", x.doAll(), 1);
        due("frame", x.count(3), 999);
        LineDisc y = Discs.typed("play=1");
        due("done", y.doAll(), 1);
        due("frame", y.count(3), 1);
    }

    private static void pressOrders() {
        DOC.says("\"press\" with a frame (0 to 9999), \".\", a place (0 to 3), \":\", and a symbol (0 to 15).");
        dueWhole("press=0.0:0", "press=9999.3:15", "press=10.2:9", "press=10.1:10");
        dueFault("press=10000.0:0", 10);
        dueFault("press=0.4:0", 8);
        dueFault("press=0.00:0", 9);
        dueFault("press=0.0:16", 11);
        dueFault("press=0.0:100", 12);
        dueFault("press=0:0:0", 7);
        dueFault("press=0.0.0", 9);
        dueFault("press=0.:0", 8);
        dueFault("press=0.0:;", 10);
        LineDisc x = Discs.typed("press=12.3:15");
        due("done", x.doAll(), 1);
        due("pressed", x.symbol(12, 3, false), 15);
        due("a check", Discs.typed("press=4.0:0").doAll(), NOT_POSSIBLE);
    }

    /** Each number from 0 to far above: a digit is not allowed by which it would be greater, or is too small. */
    private static void dueNumbers(String start, String end, int lowest, int highest) {
        int far = highest > 999 ? 12 : 10 * highest + 9;
        for (int number = 0; number <= far; number++) {
            dueNumber(start, end, lowest, highest, number);
        }
        int[] more = {99, 100, 999, 1000, 1001, 3999, 9998, 9999, 10000, 12345, 99990, 99999, 123456};
        for (int number : more) {
            dueNumber(start, end, lowest, highest, number);
        }
    }

    private static void dueNumber(String start, String end, int lowest, int highest, int number) {
        String digits = Integer.toString(number);
        int want = NONE;
        for (int i = digits.length(); i > 0; i--) {
            int first = Integer.parseInt(digits.substring(0, i));
            want = first < lowest || first > highest ? start.length() + i - 1 : want;
        }
        dueFault(start + digits + end, want);
    }

    private static void anglesAndTurns() {
        DOC.says("Angles are 0 to 359, turns 0 to 29.");
        dueNumbers("scratch=", "-0@0-0", 0, 359);
        dueNumbers("scratch=0-", "@0-0", 0, 359);
        dueNumbers("scratch=0-0@", "-0", 0, 29);
        dueNumbers("scratch=0-0@0-", "", 0, 29);
    }

    private static void noZeroInFront() {
        DOC.says("Numbers have no zero in front, unless they are the single digit 0;");
        String[] starts = {"scratch=", "scratch=0-", "scratch=0-0@", "scratch=0-0@0-", "polish=", "seek=", "press=", "press=0.",
            "press=0.0:"};
        String[] ends = {"-0@0-0", "@0-0", "-0", "", "", "", ".0:0", ":0", ""};
        for (int i = 0; i < starts.length; i++) {
            dueFault(starts[i] + "0" + ends[i], NONE);
            dueFault(starts[i] + "00" + ends[i], starts[i].length() + 1);
            dueFault(starts[i] + "01" + ends[i], starts[i].length() + 1);
            dueFault(starts[i] + "09", starts[i].length() + 1);
        }
        dueFault("play=0", 5);
        dueFault("play=01", 5);
        // a zero that is not in front
        dueFault("play=10", NONE);
        dueFault("play=100;seek=1000", NONE);
        dueFault("scratch=100-200@10-20", NONE);
        dueFault("press=100.0:10", NONE);
    }

    private static void noGreaterNumbers() {
        DOC.says("a digit by which a number would be greater than told is not allowed.");
        dueNumbers("polish=", "", 0, 9);
        dueNumbers("seek=", "", 0, 9999);
        dueNumbers("play=", "", 1, 999);
        dueNumbers("press=", ".0:0", 0, 9999);
        dueNumbers("press=0.", ":0", 0, 3);
        dueNumbers("press=0.0:", "", 0, 15);
        dueNumbers("seek=1;press=0.0:", ";seek=2", 0, 15);
    }

    private static void faultIsTheFirst() {
        DOC.says("The fault of the text is the index, from 0, of the first character that is not allowed at its place");
        dueFault("x", 0);
        dueFault("=", 0);
        dueFault("S", 0);
        dueFault("Seek=0", 0);
        dueFault(" seek=0", 0);
        dueFault("sxek=x", 1);
        dueFault("seek=0;sxek=x", 8);
        dueFault("seek=x;sxek=x", 5);
        for (String order : ORDERS) {
            for (int i = 0; i < order.length(); i++) {
                dueFault(order.substring(0, i) + "#" + order.substring(i + 1), i);
                dueFault("play=1;" + order.substring(0, i) + (char) 233 + order.substring(i + 1), 7 + i);
            }
        }
        // signs that are as others but for their upper byte, and the ends of the range
        dueFault((char) (256 + 's') + "eek=0", 0);
        dueFault("seek=" + (char) (256 + '0'), 5);
        dueFault("seek=" + (char) 0x0660, 5);
        dueFault("" + (char) 0, 0);
        dueFault("" + (char) 65535, 0);
    }

    private static boolean someWordBegins(String letters) {
        boolean begins = false;
        for (String word : WORDS) {
            begins |= (word + "=").startsWith(letters);
        }
        return begins;
    }

    private static void lettersOfWords() {
        DOC.says("(a letter of a word is allowed if some word begins so),");
        for (String word : WORDS) {
            for (int length = 0; length <= word.length(); length++) {
                String start = word.substring(0, length);
                for (char next = '.'; next <= 'z'; next++) {
                    int want = someWordBegins(start + next) ? length + 1 : length;
                    dueFault(start + next, want);
                    dueFault("play=1;" + start + next, 7 + want);
                }
            }
        }
        // some word begins so, but the one that was begun does not go on so
        dueFault("plish=0", 2);
        dueFault("sceek=0", 2);
        dueFault("prlay=1", 2);
        dueFault("polay=1", 3);
    }

    private static void endsTooEarly() {
        DOC.says("or the length of the text if it ends too early");
        for (String order : ORDERS) {
            int value = order.indexOf('=') + 1;
            int lastPart = order.lastIndexOf(order.startsWith("sc") ? '-' : order.startsWith("pre") ? ':' : '=') + 1;
            DUE.holds("the last part stands behind the word", lastPart >= value);
            for (int end = 0; end <= order.length(); end++) {
                dueFault(order.substring(0, end), end > lastPart ? NONE : end);
                dueFault("seek=3;" + order.substring(0, end), end > lastPart ? NONE : 7 + end);
            }
        }
        String full = "seek=1;seek=1;seek=1;seek=1;seek=1;seek=1;seek=1;seek=1111;s";
        due("length", full.length(), 60);
        dueFault(full, 60);
        due("doAll", Discs.typed(full).doAll(), -160);
    }

    private static void emptyText() {
        DOC.says("(the empty text does).");
        due("fault", new LineDisc().fault(), 0);
        due("doAll", new LineDisc().doAll(), -100);
        LineDisc x = Discs.typed("seek=1");
        x.clearText();
        due("fault when it was cleared", x.fault(), 0);
        due("doAll when it was cleared", x.doAll(), -100);
    }

    // ---- HISTORY

    private static void atMostFourStates() {
        DOC.says("A history of at most 4 states is kept;");
        LineDisc x = new LineDisc();
        due("none at first", x.count(15), 0);
        due("undo", x.undo(), NONE);
        for (int i = 1; i <= 4; i++) {
            x.seek(i);
            due("states", x.count(15), i);
        }
        x.seek(5);
        due("no more", x.count(15), 4);
        x.undo();
        due("three are left", x.count(15), 3);
        x.seek(6);
        due("and four again", x.count(15), 4);
    }

    private static void oldestIsDropped() {
        DOC.says("when one more is recorded, the oldest one is dropped;");
        for (int acts = 3; acts <= 10; acts++) {
            LineDisc x = new LineDisc();
            for (int i = 1; i <= acts; i++) {
                x.seek(i);
            }
            int states = Math.min(acts, 4);
            for (int left = states - 1; left >= 0; left--) {
                due("undo of " + acts, x.undo(), left);
                due("frame", x.count(3), acts - states + left);
            }
            due("none is left", x.undo(), NONE);
            due("frame", x.count(3), acts - states);
        }
    }

    private static void undoTakesTheLatest() {
        DOC.says("undo() removes and restores the latest one.");
        LineDisc x = new LineDisc();
        x.seek(1);
        x.seek(2);
        due("undo", x.undo(), 1);
        due("frame", x.count(3), 1);
        x.seek(7);
        due("undo", x.undo(), 1);
        due("what was undone is not there again", x.count(3), 1);
        due("undo", x.undo(), 0);
        due("frame", x.count(3), 0);
        due("undo", x.undo(), NONE);
        due("frame", x.count(3), 0);
    }

    private static void actsRecord() {
        DOC.says("Each call of a method that is described as an act, and returns no error and not NONE, "
            + "records the state that was before it.");
        for (int number = 0; number < 8; number++) {
            LineDisc x = Discs.scratched(0, 1);
            Due.typeAll(x, "seek=1;play=2");
            x.play(3);
            x.keep();
            String before = Discs.picture(x);
            DUE.holds("act " + number + " is done", act(x, number) >= 0);
            due("states behind the act " + number, x.count(15), 4);
            due("undo of the act " + number, x.undo(), 3);
            DUE.holds("it brings the state before the act " + number, before.equals(Discs.picture(x)));
        }
    }

    private static int act(LineDisc x, int number) {
        switch (number) {
            case 0: return x.press(0, 0, 5);
            case 1: return x.scratch(90, 99, 0, 9);
            case 2: return x.polish(1);
            case 3: return x.set(0, 40);
            case 4: return x.play(9);
            case 5: return x.seek(900);
            case 6: return x.doAll();
            default: return x.restore();
        }
    }

    private static void actsThatAnswerNullRecord() {
        DOC.says("and returns no error and not NONE,");
        LineDisc x = Discs.scratched(0);
        due("press over a 0", x.press(0, 0, 5), 0);
        due("polish the last one", x.polish(0), 0);
        due("states", x.count(15), 3);
        LineDisc y = Discs.scratched(0);
        y.set(3, 0);
        due("set from 0", y.set(3, 5), 0);
        due("states", y.count(15), 3);
        LineDisc z = Discs.scratched(0);
        due("none whole", z.play(1), 0);
        due("states", z.count(15), 2);
        LineDisc w = new LineDisc();
        due("no ticks", w.seek(0), 0);
        due("keep", w.keep(), 0);
        due("no ticks so far", w.restore(), 0);
        due("states", w.count(15), 2);
        Due.typeAll(w, "press=0.0:0");
        due("an order that does nothing", w.doAll(), 1);
        due("states", w.count(15), 3);
    }

    private static void errorsRecordNothing() {
        DOC.says("and returns no error and not NONE, records the state that was before it.");
        LineDisc x = new LineDisc();
        due("press", x.press(-1, 0, 0), UNKNOWN);
        due("press", x.press(0, 0, 16), BAD_VALUE);
        due("press", x.press(4, 0, 0), NOT_POSSIBLE);
        due("press", x.press(0, 0, 0), NONE);
        due("scratch", x.scratch(0, 360, 0, 0), BAD_VALUE);
        due("polish", x.polish(0), UNKNOWN);
        due("set", x.set(0, 7), BAD_VALUE);
        due("set", x.set(0, 20), NONE);
        due("play", x.play(0), BAD_VALUE);
        due("seek", x.seek(1470), UNKNOWN);
        due("doAll", x.doAll(), -100);
        due("restore", x.restore(), NONE);
        due("undo", x.undo(), NONE);
        Due.typeAll(x, "seek=5;polish=0");
        due("doAll", x.doAll(), UNKNOWN);
        x.fault();
        x.clearText();
        x.keep();
        x.frame(0, 5);
        x.ifSought(100, 0);
        x.bestGuess(100);
        due("nothing is recorded", x.count(15), 0);
        x.seek(1);
        x.undo();
        due("undo is no act", x.count(15), 0);
        Discs.pressMany(x, 40);
        x.seek(1);
        x.undo();
        due("press without room", x.press(Discs.dataFrame(40), 0, 15), FULL);
        due("nothing is recorded", x.count(15), 3);
    }

    private static void oneSnapshot() {
        DOC.says("There is one snapshot, empty at first.");
        LineDisc x = new LineDisc();
        due("empty", x.restore(), NONE);
        x.seek(1);
        due("an act keeps none", x.restore(), NONE);
        x.keep();
        x.seek(2);
        due("keep", x.keep(), 2);
        x.seek(3);
        due("the one that was is gone", x.restore(), 2);
        due("frame", x.count(3), 2);
        x.undo();
        due("frame", x.count(3), 3);
        x.undo();
        x.undo();
        due("undo does not take it away", x.restore(), 2);
    }

    /** A disc on which each part of the state is not as at first. */
    private static LineDisc worn() {
        LineDisc x = Discs.with(21, 3, 4, 2, 80, 5);
        x.scratch(0, 50, 0, 3);
        x.scratch(90, 99, 1, 4);
        x.press(0, 1, 7);
        x.play(30);
        x.seek(800);
        return x;
    }

    /** Four acts, as many as a history holds. */
    private static void change(LineDisc x, int kind) {
        switch (kind) {
            case 0: x.set(2, 9); x.set(3, 0); x.set(4, 60); x.set(5, 20); break;
            case 1: x.set(0, 33); x.set(1, 6); x.play(7); x.seek(300); break;
            case 2: x.scratch(200, 210, 0, 29); x.polish(0); x.polish(0); x.scratch(0, 9, 0, 0); break;
            default: x.press(1, 1, 1); x.press(0, 1, 3); x.press(2, 0, 3); x.press(2, 0, 14); break;
        }
    }

    private static void dueNumbersOf(String before, LineDisc x, int states, int length) {
        for (int what = 0; what <= 22; what++) {
            due("count " + what, x.count(what), what == 15 ? states : what == 16 ? length : at(before, what));
        }
        due("symbol", x.symbol(0, 1, false), 7);
        due("symbol", x.symbol(1, 1, false), 10);
        due("symbol", x.symbol(2, 0, false), 14);
        due("scratch", x.scratchOf(0, 1), 50);
        due("scratch", x.scratchOf(1, 0), 90);
    }

    private static void allButTextHistoryAndSnapshot() {
        DOC.says("A state is everything but the text, the history and the snapshot.");
        for (int kind = 0; kind < 4; kind++) {
            LineDisc x = worn();
            String before = Discs.picture(x);
            change(x, kind);
            DUE.holds("it is another state", !before.equals(Discs.picture(x)));
            Due.typeAll(x, "abc");
            for (int i = 0; i < 4; i++) {
                x.undo();
            }
            dueNumbersOf(before, x, 0, 3);
            due("none is kept", x.restore(), NONE);
            x.keep();
            change(x, kind);
            change(x, (kind + 1) % 4);
            x.type('d');
            due("restore", x.restore(), at(before, 6));
            dueNumbersOf(before, x, 4, 4);
        }
        LineDisc y = new LineDisc();
        y.seek(1);
        y.keep();
        y.type('a');
        y.undo();
        due("the text stays", y.count(16), 1);
        due("the snapshot stays", y.restore(), 1);
        due("undo", y.undo(), 0);
        due("frame", y.count(3), 0);
    }

    /** The number with this index in a picture. */
    private static int at(String picture, int index) {
        return Integer.parseInt(picture.split(" ")[index]);
    }

    // ---- ERRORS

    private static void constants() {
        DOC.says("Errors are reported by the constants below.");
        due("the first of them", new LineDisc().seek(-1), LineDisc.UNKNOWN);
        due("the last of them", new LineDisc().undo(), LineDisc.NONE);
        DOC.says("The constants: `UNKNOWN = -1`: There is no such frame, turn, group or scratch.");
        due("UNKNOWN", LineDisc.UNKNOWN, -1);
        LineDisc x = new LineDisc();
        due("a frame", x.seek(-1), -1);
        due("a turn", x.turn(30, 0), -1);
        due("a scratch", x.polish(0), -1);
        DOC.says("`BAD_VALUE = -2`: Another argument is out of range.");
        due("BAD_VALUE", LineDisc.BAD_VALUE, -2);
        due("another argument", x.frame(0, 9), -2);
        DOC.says("`FULL = -3`: There is no more room.");
        due("FULL", LineDisc.FULL, -3);
        Discs.pressMany(x, 40);
        due("no room", x.press(1000, 0, 1), -3);
        DOC.says("`NOT_POSSIBLE = -4`: This is not possible.");
        due("NOT_POSSIBLE", LineDisc.NOT_POSSIBLE, -4);
        due("a check", x.press(9, 0, 0), -4);
        DOC.says("`NONE = -5`: There is no such thing; not an error.");
        due("NONE", LineDisc.NONE, -5);
        due("no gap", x.gap(0), -5);
    }

    private static void orderOfChecks() {
        DOC.says("Where several errors can apply, the order of the @return line is the order of the checks.");
        LineDisc x = new LineDisc();
        due("press: UNKNOWN, BAD_VALUE", x.press(1470, 4, 16), UNKNOWN);
        due("press: BAD_VALUE, NOT_POSSIBLE", x.press(4, 0, 16), BAD_VALUE);
        due("press: BAD_VALUE, NOT_POSSIBLE", x.press(4, -1, 0), BAD_VALUE);
        due("frame: UNKNOWN, BAD_VALUE", x.frame(-1, 9), UNKNOWN);
        due("symbol: UNKNOWN, BAD_VALUE", x.symbol(1470, 4, true), UNKNOWN);
        due("turn: UNKNOWN, BAD_VALUE", x.turn(30, 4), UNKNOWN);
        due("scratchOf: UNKNOWN, BAD_VALUE", x.scratchOf(0, 5), UNKNOWN);
        due("ifSought: UNKNOWN, BAD_VALUE", x.ifSought(1470, 2), UNKNOWN);
        Discs.pressMany(x, 40);
        due("press: UNKNOWN, FULL", x.press(1470, 0, 1), UNKNOWN);
        due("press: BAD_VALUE, FULL", x.press(1000, 0, 16), BAD_VALUE);
        due("press: NOT_POSSIBLE, FULL", x.press(1004, 0, x.symbol(1004, 0, false) ^ 1), NOT_POSSIBLE);
        for (int i = 0; i < 8; i++) {
            x.scratch(i, i, 0, 0);
        }
        due("scratch: BAD_VALUE, FULL", x.scratch(0, 360, 0, 0), BAD_VALUE);
        due("scratch: BAD_VALUE, FULL", x.scratch(0, 0, 1, 0), BAD_VALUE);
        Due.typeAll(x, "polish=9;seek=x");
        due("doAll: the fault, UNKNOWN", x.doAll(), -114);
        Due.typeAll(x, "polish=9;scratch=1-0@0-0");
        due("doAll: the first order", x.doAll(), UNKNOWN);
        Due.typeAll(x, "scratch=1-0@0-0;polish=9");
        due("doAll: the first order", x.doAll(), BAD_VALUE);
    }

    private static void noneOnlyWithoutError() {
        DOC.says("NONE is no error; it is returned only if no error applies.");
        LineDisc x = new LineDisc();
        due("press: it has this symbol", x.press(0, 0, 0), NONE);
        due("press: it has this symbol, and is a check", x.press(4, 0, 10), NOT_POSSIBLE);
        due("set: it is so, and there is no such setting", x.set(6, 4), BAD_VALUE);
        due("polishFirst: no scratches", x.polishFirst(2), BAD_VALUE);
        due("polishFirst: no scratches", x.polishFirst(1), NONE);
        due("gap: none missing", x.gap(-1), BAD_VALUE);
        due("gap: none missing", x.gap(1), NONE);
        x.seek(1469);
        x.play(1);
        due("play: at the end", x.play(0), BAD_VALUE);
        due("play: at the end", x.play(1000), BAD_VALUE);
        due("play: at the end", x.play(999), NONE);
        x.scratch(0, 359, 0, 29);
        due("symbol: missing", x.symbol(0, 4, true), BAD_VALUE);
        due("symbol: missing", x.symbol(1470, 0, true), UNKNOWN);
        due("symbol: missing", x.symbol(0, 3, true), NONE);
        Discs.pressMany(x, 40);
        due("press: without room, but it has this symbol", x.press(1000, 0, Discs.atFirst(1000, 0)), NONE);
        due("press: without room, and another symbol", x.press(1000, 0, Discs.atFirst(1000, 0) ^ 1), FULL);
    }

    private interface Call {
        int on(LineDisc x);
    }

    private static void nothingIsChanged() {
        DOC.says("A call that returns an error or NONE changes nothing.");
        Call[] calls = {x -> x.press(-1, 0, 0), x -> x.press(9999, 0, 0), x -> x.press(0, 4, 0), x -> x.press(0, 0, 16),
            x -> x.press(4, 0, 15), x -> x.press(0, 1, 7), x -> x.scratch(9, 8, 0, 0), x -> x.scratch(0, 360, 0, 0),
            x -> x.scratch(0, 0, 3, 2), x -> x.scratch(0, 0, 0, 30), x -> x.polish(-1), x -> x.polish(2), x -> x.set(-1, 5),
            x -> x.set(6, 5), x -> x.set(0, 41), x -> x.set(1, 7), x -> x.set(0, 21), x -> x.set(1, 3), x -> x.play(0),
            x -> x.play(1000), x -> x.seek(-1), x -> x.seek(9999), x -> x.doAll(), x -> x.frame(-1, 0), x -> x.frame(0, 9),
            x -> x.symbol(9999, 0, true), x -> x.symbol(0, 4, true), x -> x.turn(30, 0), x -> x.turn(0, 4),
            x -> x.scratchOf(2, 0), x -> x.scratchOf(0, 5), x -> x.count(23), x -> x.ifSought(-1, 0), x -> x.ifSought(0, 2),
            x -> x.bestGuess(-1), x -> x.polishFirst(2), x -> x.gap(2), x -> x.symbol(0, 0, true)};
        for (int i = 0; i < calls.length; i++) {
            dueUnchanged("call " + i, kept(), kept(), calls[i]);
        }
        String[] texts = {"seek=1;play=3;press=0.0:9;scratch=1-2@3-4;polish=0;polish=7", "press=3.3:1;seek=9999",
            "play=9;press=4.0:0", "polish=0;scratch=9-8@0-0", "seek=1;seek=x"};
        for (String text : texts) {
            dueUnchanged("doAll of " + text, ordered(text), ordered(text), x -> x.doAll());
        }
        dueUnchanged("ninth scratch", fullOfScratches(), fullOfScratches(), x -> x.scratch(5, 5, 5, 5));
        dueUnchanged("ninth scratch", fullOfScratches(), fullOfScratches(), x -> x.doAll());
        dueUnchanged("symbol 41", fullOfSymbols(), fullOfSymbols(), x -> x.press(1000, 0, 1));
        dueUnchanged("character 61", fullOfText(), fullOfText(), x -> x.type('0'));
        dueUnchanged("play at the end", atTheEnd(), atTheEnd(), x -> x.play(1));
        dueUnchanged("fault of a whole text", ordered("seek=1"), ordered("seek=1"), x -> x.fault());
        dueUnchanged("undo", new LineDisc(), new LineDisc(), x -> x.undo());
        dueUnchanged("restore", Discs.scratched(0), Discs.scratched(0), x -> x.restore());
        dueUnchanged("gap", Discs.scratched(0), Discs.scratched(0), x -> x.gap(0));
        dueUnchanged("polishFirst", new LineDisc(), new LineDisc(), x -> x.polishFirst(0));
    }

    /** What a refused call could have changed is told at once, or by undo and restore. */
    private static void dueUnchanged(String what, LineDisc x, LineDisc twin, Call call) {
        int answer = call.on(x);
        DUE.holds(what + " answers an error or NONE, and not " + answer, answer < 0);
        DUE.holds(what + " changes nothing", Discs.picture(x).equals(Discs.picture(twin)));
        for (int i = 0; i < 5; i++) {
            due("undo behind " + what, x.undo(), twin.undo());
            due("frame behind " + what, x.count(3), twin.count(3));
            due("scratches behind " + what, x.count(2), twin.count(2));
        }
        due("restore behind " + what, x.restore(), twin.restore());
        DUE.holds(what + " changes nothing that was kept", Discs.picture(x).equals(Discs.picture(twin)));
    }

    private static LineDisc kept() {
        LineDisc x = worn();
        x.keep();
        x.play(3);
        x.type('s');
        return x;
    }

    private static LineDisc ordered(String text) {
        LineDisc x = kept();
        Due.typeAll(x, text);
        return x;
    }

    private static LineDisc fullOfScratches() {
        LineDisc x = ordered("scratch=0-0@0-0");
        for (int i = 2; i < 8; i++) {
            x.scratch(i, i, i, i);
        }
        return x;
    }

    private static LineDisc fullOfSymbols() {
        LineDisc x = new LineDisc();
        Discs.pressMany(x, 40);
        return x;
    }

    private static LineDisc fullOfText() {
        LineDisc x = kept();
        for (int i = 0; i < 60; i++) {
            x.type('s');
        }
        return x;
    }

    private static LineDisc atTheEnd() {
        LineDisc x = kept();
        x.seek(x.count(0) - 1);
        x.play(1);
        return x;
    }
}
