/** The promises 1 to 24 of the document: each argument at the ends of its range, each answer of a "Returns" line. */
public final class CallsTest {
    private static final int UNKNOWN = -1;
    private static final int BAD_VALUE = -2;
    private static final int FULL = -3;
    private static final int NOT_POSSIBLE = -4;
    private static final int NONE = -5;
    private static final int MIN = Integer.MIN_VALUE;
    private static final int MAX = Integer.MAX_VALUE;

    private static final Due DUE = new Due();
    private static final Doc DOC = new Doc(DUE);

    public static void main(String[] args) {
        newObject();
        press();
        pressWithoutRoom();
        scratch();
        polish();
        set();
        play();
        seek();
        type();
        clearText();
        fault();
        doAll();
        undo();
        keep();
        restore();
        frame();
        frameHow();
        symbol();
        turn();
        scratchOf();
        count();
        right();
        ifSought();
        bestGuess();
        polishFirst();
        gap();
        DUE.close();
    }

    private static void due(String call, long got, long want) {
        DUE.due(call, got, want);
    }

    private static void dueCounts(LineDisc x, int from, int... want) {
        for (int i = 0; i < want.length; i++) {
            due("count(" + (from + i) + ")", x.count(from + i), want[i]);
        }
    }

    private interface Call {
        int of(int argument);
    }

    /** Just outside the range, and far outside of it. */
    private static void dueOutside(String argument, int low, int high, int want, Call call) {
        int[] values = {low - 1, low - 2, high + 1, high + 2, MIN, MIN + 1, MAX, MAX - 1};
        for (int value : values) {
            due(argument + " " + value, call.of(value), want);
        }
    }

    private static void newObject() {
        DOC.section("## Promise 1: A new object", "## Promise 2");
        DOC.says("`LineDisc()`: Creates a disc without scratches, with the head at the frame 0.");
        LineDisc x = new LineDisc();
        dueCounts(x, 0, 1470, 294, 0, 0, 0, 20, 0, 0, 0, 0, 1470, 0, 0, 0, 0, 0, 0, 20, 2, 3, 1, 90, 4);
        due("no scratch", x.scratchOf(0, 0), UNKNOWN);
        due("no damage", x.turn(0, 2), 0);
        due("history", x.undo(), NONE);
        due("snapshot", x.restore(), NONE);
        due("text", x.clearText(), 0);
        // another object is no matter
        x.scratch(0, 359, 0, 29);
        x.press(0, 0, 9);
        x.type('s');
        x.keep();
        LineDisc y = new LineDisc();
        dueCounts(y, 0, 1470, 294, 0, 0, 0, 20, 0, 0, 0, 0, 1470, 0, 0, 0, 0, 0, 0, 20, 2, 3, 1, 90, 4);
        due("snapshot", y.restore(), NONE);
        due("symbol", y.symbol(0, 0, false), 0);
        DOC.end();
    }

    private static void press() {
        DOC.section("## Promise 2: press", "## Promise 3");
        DOC.says("`int press(int frame, int place, int symbol)`: Presses another symbol into a data frame; "
            + "the check of its group follows. This is an act.");
        LineDisc x = new LineDisc();
        due("press", x.press(1467, 3, 0), (7 * 1467 + 9) % 16);
        due("symbol", x.symbol(1467, 3, false), 0);
        due("the check", x.symbol(1469, 3, false), (7 * (1465 + 1466 + 1468) + 27) % 16);
        due("an act", x.count(15), 1);
        due("press again", x.press(1467, 3, 15), 0);
        due("the check", x.symbol(1469, 3, false), (7 * (1465 + 1466 + 1468) + 27 + 15) % 16);
        DOC.says("- `frame`: a frame - `place`: 0 to 3 - `symbol`: 0 to 15");
        dueOutside("frame", 0, 1469, UNKNOWN, i -> x.press(i, 0, 1));
        dueOutside("place", 0, 3, BAD_VALUE, i -> x.press(0, i, 1));
        dueOutside("symbol", 0, 15, BAD_VALUE, i -> x.press(0, 0, i));
        due("the first of all", x.press(0, 0, 15), 0);
        due("the last of all", x.press(1468, 3, 15), (7 * 1468 + 9) % 16);
        due("symbol 0", x.press(1468, 3, 0), 15);
        pressBack();
        DOC.says("Returns the previous one; UNKNOWN; BAD_VALUE; NOT_POSSIBLE if the frame is a check; NONE if it has this symbol;");
        due("previous", x.press(10, 1, 4), 9);
        due("previous", x.press(10, 1, 3), 4);
        due("it has it", x.press(10, 1, 3), NONE);
        due("it has it from first on", x.press(11, 0, 13), NONE);
        due("check", x.press(14, 0, 1), NOT_POSSIBLE);
        due("check, with its own symbol", x.press(14, 0, x.symbol(14, 0, false)), NOT_POSSIBLE);
        due("check, the last frame", x.press(1469, 3, 1), NOT_POSSIBLE);
        due("unknown ahead of all", x.press(-1, -1, -1), UNKNOWN);
        due("bad value ahead of a check", x.press(14, 4, 0), BAD_VALUE);
    }

    /** Symbols that are as at first again leave the others as they are, whichever of them it is. */
    private static void pressBack() {
        for (int back = 0; back < 3; back++) {
            LineDisc x = new LineDisc();
            Discs.pressMany(x, 3);
            x.press(back, 0, Discs.atFirst(back, 0));
            for (int frame = 0; frame < 3; frame++) {
                int symbol = (Discs.atFirst(frame, 0) + (frame == back ? 0 : 1)) % 16;
                due("symbol of " + frame + " without " + back, x.symbol(frame, 0, false), symbol);
            }
            x.undo();
            for (int frame = 0; frame < 3; frame++) {
                due("symbol of " + frame + " again", x.symbol(frame, 0, false), (Discs.atFirst(frame, 0) + 1) % 16);
            }
        }
    }

    private static void pressWithoutRoom() {
        DOC.says("FULL if it has another one, and 40 symbols were pressed that are not as at first "
            + "(this one aside, if it is one of them).");
        LineDisc x = new LineDisc();
        Discs.pressMany(x, 39);
        int last = Discs.dataFrame(39);
        due("the 40th", x.press(last, 0, Discs.atFirst(last, 0) ^ 1), Discs.atFirst(last, 0));
        due("symbols", x.count(14), 40);
        due("the 41st", x.press(1000, 0, Discs.atFirst(1000, 0) ^ 1), FULL);
        due("another place of a pressed frame", x.press(0, 1, 4), FULL);
        due("not pressed", x.symbol(0, 1, false), 3);
        due("as at first", x.press(1000, 0, Discs.atFirst(1000, 0)), NONE);
        for (int i = 0; i < 39; i++) {
            int frame = Discs.dataFrame(i);
            int now = (Discs.atFirst(frame, 0) + 1) % 16;
            due("one of them, to another one", x.press(frame, 0, Discs.atFirst(frame, 0) ^ 8), now);
            due("one of them, back", x.press(frame, 0, now), Discs.atFirst(frame, 0) ^ 8);
        }
        due("one of them, to another one", x.press(last, 0, Discs.atFirst(last, 0) ^ 2), Discs.atFirst(last, 0) ^ 1);
        due("symbols", x.count(14), 40);
        due("one of them, to what it has", x.press(last, 0, Discs.atFirst(last, 0) ^ 2), NONE);
        due("one of them, to as at first", x.press(last, 0, Discs.atFirst(last, 0)), Discs.atFirst(last, 0) ^ 2);
        due("symbols", x.count(14), 39);
        due("room for one", x.press(1000, 0, Discs.atFirst(1000, 0) ^ 1), Discs.atFirst(1000, 0));
        due("and no more", x.press(last, 0, Discs.atFirst(last, 0) ^ 1), FULL);
        due("one more, behind an undo", x.undo(), 3);
        due("one more, behind an undo", x.press(last, 0, Discs.atFirst(last, 0) ^ 1), Discs.atFirst(last, 0));
        for (int i = 0; i < 39; i++) {
            int frame = Discs.dataFrame(i);
            due("the others stay", x.symbol(frame, 0, false), (Discs.atFirst(frame, 0) + 1) % 16);
        }
        // a symbol that was pressed, and is as at first again, is none of them
        LineDisc y = new LineDisc();
        for (int i = 0; i < 60; i++) {
            int frame = Discs.dataFrame(i);
            due("press", y.press(frame, 2, Discs.atFirst(frame, 2) ^ 8), Discs.atFirst(frame, 2));
            due("back", y.press(frame, 2, Discs.atFirst(frame, 2)), Discs.atFirst(frame, 2) ^ 8);
        }
        due("symbols", y.count(14), 0);
        DOC.end();
    }

    private static void scratch() {
        DOC.section("## Promise 3: scratch", "## Promise 4");
        DOC.says("`int scratch(int from, int to, int inner, int outer)`: Scratches the disc. This is an act.");
        LineDisc x = new LineDisc();
        due("scratch", x.scratch(0, 0, 0, 0), 1);
        due("an act", x.count(15), 1);
        due("scratches", x.count(2), 1);
        DOC.says("- `from`: an angle, 0 to 359 - `to`: an angle, from to 359 - `inner`: a turn, 0 to 29 "
            + "- `outer`: a turn, inner to 29");
        dueOutside("from", 0, 359, BAD_VALUE, i -> x.scratch(i, 359, 0, 0));
        dueOutside("to", 100, 359, BAD_VALUE, i -> x.scratch(100, i, 0, 0));
        dueOutside("inner", 0, 29, BAD_VALUE, i -> x.scratch(0, 0, i, 29));
        dueOutside("outer", 10, 29, BAD_VALUE, i -> x.scratch(0, 0, 10, i));
        due("scratches", x.count(2), 1);
        due("all at their lowest", x.scratch(0, 0, 0, 0), 1);
        due("all at their highest", x.scratch(359, 359, 29, 29), 2);
        due("to at its lowest", x.scratch(100, 100, 3, 3), 3);
        due("outer at its lowest", x.scratch(0, 359, 10, 10), 3 + 40);
        DOC.says("Returns how many frames are damaged then; BAD_VALUE; FULL if there are 8 scratches.");
        due("all", x.scratch(0, 359, 0, 29), 1470);
        due("damaged already", x.scratch(0, 359, 0, 29), 1470);
        due("bad value", x.scratch(9, 8, 0, 0), BAD_VALUE);
        due("the eighth", x.scratch(0, 0, 0, 0), 1470);
        due("the ninth", x.scratch(0, 0, 0, 0), FULL);
        due("the ninth", x.scratch(0, 0, 0, 30), BAD_VALUE);
        due("states", x.count(15), 4);
        DOC.end();
    }

    private static void polish() {
        DOC.section("## Promise 4: polish", "## Promise 5");
        DOC.says("`int polish(int scratch)`: Polishes a scratch away. This is an act.");
        LineDisc x = Discs.scratched(0, 1, 2, 3, 4, 5, 6, 7);
        due("polish", x.polish(3), 7);
        due("damaged", x.frame(3, 4), 0);
        due("scratches", x.count(2), 7);
        due("an act", x.undo(), 3);
        due("scratches", x.count(2), 8);
        DOC.says("- `scratch`: a scratch");
        dueOutside("scratch", 0, 7, UNKNOWN, x::polish);
        due("the last one", x.polish(7), 7);
        due("gone", x.polish(7), UNKNOWN);
        due("the first one", x.polish(0), 6);
        DOC.says("Returns how many frames are damaged then; UNKNOWN.");
        LineDisc y = new LineDisc();
        due("none is there", y.polish(0), UNKNOWN);
        y.scratch(0, 35, 0, 0);
        y.scratch(18, 53, 0, 0);
        y.scratch(18, 35, 0, 0);
        due("damaged by others still", y.polish(2), 3);
        due("one of its frames by the other one", y.polish(0), 2);
        due("the only one", y.polish(0), 0);
        due("none is left", y.polish(0), UNKNOWN);
        due("states", y.count(15), 4);
        DOC.end();
    }

    private static void set() {
        DOC.section("## Promise 5: set", "## Promise 6");
        DOC.says("`int set(int which, int value)`: Sets a setting; for the settings 0 and 1 the head goes to the frame 0, "
            + "and the speed is that of the turn 0. This is an act.");
        int[] values = {33, 5, 9, 5, 100, 20};
        for (int which = 0; which < 6; which++) {
            LineDisc x = new LineDisc();
            x.play(50);
            x.seek(60);
            int ticks = x.count(6);
            x.set(which, values[which]);
            dueCounts(x, 3, which < 2 ? 0 : 60, which < 2 ? 0 : 2, which == 0 ? 33 : which == 1 ? 20 : 24, ticks, 50, 50, 0);
            due("an act", x.undo(), 2);
            dueCounts(x, 3, 60, 2, 24, ticks, 50, 50, 0);
        }
        LineDisc end = Discs.with(8, 0);
        end.play(240);
        due("from the end", end.set(1, 1), 0);
        dueCounts(end, 3, 0, 0, 8, 240);
        DOC.says("- `which`: 0 to 5 - `value`: in its range");
        int[][] ranges = {{8, 40}, {0, 6}, {1, 9}, {0, 5}, {60, 140}, {0, 20}};
        LineDisc y = new LineDisc();
        dueOutside("which", 0, 5, BAD_VALUE, i -> y.set(i, 5));
        for (int which = 0; which < 6; which++) {
            int each = which;
            dueOutside("value of " + which, ranges[which][0], ranges[which][1], BAD_VALUE, i -> y.set(each, i));
            DUE.holds("lowest", y.set(which, ranges[which][0]) >= 0);
            due("highest", y.set(which, ranges[which][1]), ranges[which][0]);
        }
        DOC.says("Returns the previous one; BAD_VALUE (which or value); NONE if it is so already.");
        LineDisc z = new LineDisc();
        int[] first = {20, 2, 3, 1, 90, 4};
        z.play(30);
        for (int which = 0; which < 6; which++) {
            due("it is so", z.set(which, first[which]), NONE);
        }
        dueCounts(z, 3, 30, 1, 22);
        due("states", z.count(15), 1);
        for (int which = 0; which < 6; which++) {
            due("previous", z.set(which, values[which]), first[which]);
            due("it is so", z.set(which, values[which]), NONE);
            due("previous", z.set(which, first[which]), values[which]);
        }
        DOC.end();
    }

    private static void play() {
        DOC.section("## Promise 6: play", "## Promise 7");
        DOC.says("`int play(int frames)`: Reads frames, for as many ticks as it takes, up to the end of the disc at most. This is an act.");
        LineDisc x = Discs.with(8, 6, 1, 0);
        due("play", x.play(9), 9);
        // the speed needs six ticks from 8 to 14, and is right in the sixth
        dueCounts(x, 3, 9, 1, 14, 9 + 5, 9, 9);
        due("an act", x.undo(), 3);
        dueCounts(x, 3, 0, 0, 8, 0, 0, 0);
        x.seek(2848);
        due("up to the end", x.play(999), 2);
        dueCounts(x, 3, 2850, 29, 182);
        dueCounts(x, 7, 2, 2);
        DOC.says("- `frames`: 1 to 999: how many");
        LineDisc y = new LineDisc();
        dueOutside("frames", 1, 999, BAD_VALUE, y::play);
        due("the fewest", y.play(1), 1);
        due("the most", y.play(999), 999);
        due("frame", y.count(3), 1000);
        DOC.says("Returns how many of the frames read are whole; BAD_VALUE; NONE if the head is at the end.");
        // 0 is whole, 1 mended, 5 filled, 7 filled, 10 and 11 missing
        LineDisc z = Discs.scratched(1, 5, 7, 10, 11);
        due("whole", z.play(1), 1);
        due("mended", z.play(1), 0);
        due("whole", z.play(3), 3);
        due("filled, whole, filled", z.play(3), 1);
        due("whole", z.play(2), 2);
        due("missing", z.play(2), 0);
        dueCounts(z, 7, 12, 7);
        z.seek(1469);
        due("to the end", z.play(9), 1);
        due("at the end", z.play(1), NONE);
        due("at the end", z.play(999), NONE);
        due("at the end", z.play(1000), BAD_VALUE);
        due("states", z.undo(), 3);
        due("ahead of the end again", z.play(1), 1);
        DOC.end();
    }

    private static void seek() {
        DOC.section("## Promise 7: seek", "## Promise 8");
        DOC.says("`int seek(int frame)`: Seeks a frame. This is an act.");
        LineDisc x = new LineDisc();
        due("seek", x.seek(7), 7);
        due("frame", x.count(3), 7);
        due("states", x.count(15), 1);
        due("seek where it is", x.seek(7), 0);
        due("states", x.count(15), 2);
        DOC.says("- `frame`: a frame");
        dueOutside("frame", 0, 1469, UNKNOWN, x::seek);
        due("the last one", x.seek(1469), 118);
        due("the first one", x.seek(0), 30 + 6 + 5);
        LineDisc y = Discs.with(8, 0);
        dueOutside("frame", 0, 239, UNKNOWN, y::seek);
        due("the last one", y.seek(239), 29 + 3 * 4 + 7);
        DOC.says("Returns the ticks that it takes; UNKNOWN.");
        LineDisc z = new LineDisc();
        z.play(5);
        due("only those of this one", z.seek(30), 5 + 10);
        dueCounts(z, 6, 5 + 15, 5, 5, 1);
        DOC.end();
    }

    private static void type() {
        DOC.section("## Promise 8: type", "## Promise 9");
        DOC.says("`int type(char character)`: Appends a character to the text.");
        LineDisc x = new LineDisc();
        x.type('s');
        x.type('x');
        due("behind the first one", x.fault(), 1);
        DOC.says("- `character`: any character");
        char[] characters = {0, 9, 10, 31, ' ', 127, 128, 255, 256, 0xd800, 0xffff};
        for (int i = 0; i < characters.length; i++) {
            due("type " + (int) characters[i], x.type(characters[i]), 3 + i);
        }
        DOC.says("Returns the length then; FULL if it has 60 characters.");
        LineDisc y = new LineDisc();
        for (int length = 1; length <= 60; length++) {
            due("length", y.type('e'), length);
            due("count", y.count(16), length);
        }
        due("full", y.type('e'), FULL);
        due("full", y.type((char) 0), FULL);
        due("count", y.count(16), 60);
        due("no act", y.count(15), 0);
        DOC.end();
    }

    private static void clearText() {
        DOC.section("## Promise 9: clearText", "## Promise 10");
        DOC.says("`int clearText()`: Empties the text.");
        LineDisc x = Discs.typed("seek=1");
        x.clearText();
        due("count", x.count(16), 0);
        due("fault", x.fault(), 0);
        DOC.says("Returns the length that it had.");
        int[] lengths = {0, 1, 59, 60};
        for (int length : lengths) {
            LineDisc y = new LineDisc();
            for (int i = 0; i < length; i++) {
                y.type(';');
            }
            due("length", y.clearText(), length);
            due("length then", y.clearText(), 0);
            due("type", y.type('s'), 1);
        }
        LineDisc z = new LineDisc();
        for (int i = 0; i < 61; i++) {
            z.type('a');
        }
        due("a refused one does not count", z.clearText(), 60);
        due("no act", z.count(15), 0);
        DOC.end();
    }

    private static void fault() {
        DOC.section("## Promise 10: fault", "## Promise 11");
        DOC.says("`int fault()`: Tells the fault of the text.");
        LineDisc x = Discs.typed("seek=1;sx");
        due("fault", x.fault(), 8);
        due("and again", x.fault(), 8);
        due("nothing is done", x.count(3), 0);
        DOC.says("Returns the index; NONE if it has none.");
        LineDisc y = new LineDisc();
        String text = "seek=12;play=3";
        int[] faults = {0, 1, 2, 3, 4, 5, NONE, NONE, 8, 9, 10, 11, 12, 13, NONE};
        due("fault", y.fault(), faults[0]);
        for (int i = 0; i < text.length(); i++) {
            y.type(text.charAt(i));
            due("fault of " + (i + 1), y.fault(), faults[i + 1]);
        }
        LineDisc z = new LineDisc();
        for (int i = 0; i < 60; i++) {
            z.type("seek=1;play=1;play=1;play=1;play=1;play=1;play=1;play=111;se".charAt(i));
        }
        due("the highest index", z.fault(), 60);
        z.clearText();
        for (int i = 0; i < 60; i++) {
            z.type("seek=1;play=1;play=1;play=1;play=1;play=1;play=1;play=111;sx".charAt(i));
        }
        due("the last one of 60", z.fault(), 59);
        DOC.end();
    }

    private static void doAll() {
        DOC.section("## Promise 11: doAll", "## Promise 12");
        DOC.says("`int doAll()`: Does the orders of the text, which stays, one after the other; all of them or none. This is one act.");
        LineDisc x = Discs.typed("scratch=0-17@0-0;press=0.0:9;seek=19;seek=0;play=2");
        due("orders", x.doAll(), 5);
        // 19 ticks there, one back, two of reading
        dueCounts(x, 2, 1, 2, 0, 20, 22, 2, 1, 0);
        due("pressed", x.symbol(0, 0, false), 9);
        due("one act", x.count(15), 1);
        due("the text stays", x.count(16), 50);
        due("undo", x.undo(), 0);
        dueCounts(x, 2, 0, 0, 0, 20, 0, 0, 0, 0);
        Due.typeAll(x, "scratch=0-17@0-0;press=0.0:9;seek=19;play=2;polish=1");
        due("or none", x.doAll(), UNKNOWN);
        dueCounts(x, 2, 0, 0, 0, 20, 0, 0, 0, 0);
        due("not pressed", x.symbol(0, 0, false), 0);
        dueCounts(x, 14, 0, 0, 52);
        // orders of a longer text that was cleared are not done
        Due.typeAll(x, "seek=5;seek=7");
        due("a shorter text", x.doAll(), 2);
        dueCounts(x, 2, 0, 7, 0, 20, 7);
        Due.typeAll(x, "play=1");
        due("a text of one order", x.doAll(), 1);
        dueCounts(x, 2, 0, 8, 0, 20, 8);
        DOC.says("(An order that returns NONE does nothing, and is no error.)");
        LineDisc y = Discs.typed("press=0.0:0;seek=1469;play=5;play=5;seek=3");
        due("orders", y.doAll(), 5);
        dueCounts(y, 3, 3, 0, 20);
        due("read", y.count(7), 1);
        DOC.says("Returns how many orders the text has;");
        due("one", Discs.typed("seek=1").doAll(), 1);
        due("eight", Discs.typed("seek=1;seek=2;seek=3;seek=4;seek=5;seek=6;seek=7;seek=8").doAll(), 8);
        due("one that does nothing", Discs.typed("press=0.0:0").doAll(), 1);
        DOC.says("-100 minus the fault of the text if it has one (which is an error);");
        due("empty", new LineDisc().doAll(), -100);
        due("at 1", Discs.typed("sx").doAll(), -101);
        due("at the end", Discs.typed("seek=").doAll(), -105);
        LineDisc z = Discs.typed("seek=5;seek=6;x");
        due("at 14", z.doAll(), -114);
        dueCounts(z, 3, 0, 0, 20, 0);
        due("no act", z.count(15), 0);
        DOC.says("otherwise the error that the method of the first order returns that has one when its turn comes.");
        due("UNKNOWN, BAD_VALUE", Discs.typed("seek=1470;scratch=1-0@0-0").doAll(), UNKNOWN);
        due("BAD_VALUE, UNKNOWN", Discs.typed("scratch=1-0@0-0;seek=1470").doAll(), BAD_VALUE);
        due("NOT_POSSIBLE, UNKNOWN", Discs.typed("press=4.0:0;seek=1470").doAll(), NOT_POSSIBLE);
        LineDisc w = Discs.typed("polish=0;polish=0");
        w.scratch(0, 0, 0, 0);
        due("gone when its turn comes", w.doAll(), UNKNOWN);
        Due.typeAll(w, "scratch=0-0@0-0;polish=1;polish=0");
        due("there when its turn comes", w.doAll(), 3);
        DOC.end();
    }

    private static void undo() {
        DOC.section("## Promise 12: undo", "## Promise 13");
        DOC.says("`int undo()`: Removes and restores the latest state of the history.");
        LineDisc x = new LineDisc();
        x.seek(1);
        x.scratch(0, 0, 0, 0);
        x.undo();
        dueCounts(x, 2, 0, 1);
        x.undo();
        dueCounts(x, 2, 0, 0);
        DOC.says("Returns the number of states that are left; NONE if the history is empty.");
        due("empty", new LineDisc().undo(), NONE);
        LineDisc y = new LineDisc();
        for (int i = 1; i <= 5; i++) {
            y.seek(i);
        }
        for (int left = 3; left >= 0; left--) {
            due("left", y.undo(), left);
            due("count", y.count(15), left);
        }
        due("empty", y.undo(), NONE);
        due("empty", y.undo(), NONE);
        due("the first of the five stays", y.count(3), 1);
        DOC.end();
    }

    private static void keep() {
        DOC.section("## Promise 13: keep", "## Promise 14");
        DOC.says("`int keep()`: Takes a snapshot of the state, in place of the one that was.");
        LineDisc x = new LineDisc();
        x.seek(3);
        x.keep();
        x.seek(5);
        x.keep();
        x.seek(9);
        x.restore();
        due("the later one", x.count(3), 5);
        due("no act", x.count(15), 4);
        DOC.says("Returns the ticks so far.");
        LineDisc y = new LineDisc();
        due("none", y.keep(), 0);
        y.play(30);
        due("30", y.keep(), 30);
        y.undo();
        due("none again", y.keep(), 0);
        due("no act", y.count(15), 0);
        DOC.end();
    }

    private static void restore() {
        DOC.section("## Promise 14: restore", "## Promise 15");
        DOC.says("`int restore()`: Restores the state of the snapshot, which stays. This is an act.");
        LineDisc x = new LineDisc();
        x.play(2);
        x.keep();
        x.set(0, 40);
        due("restore", x.restore(), 2);
        dueCounts(x, 0, 1470, 294, 0, 2);
        due("states", x.count(15), 3);
        due("an act", x.undo(), 2);
        due("settings", x.count(17), 40);
        x.scratch(0, 0, 0, 0);
        due("it stays", x.restore(), 2);
        due("scratches", x.count(2), 0);
        // what is done behind it is not done to the snapshot
        x.press(0, 0, 9);
        due("it stays as it was", x.restore(), 2);
        due("symbol", x.symbol(0, 0, false), 0);
        DOC.says("Returns the ticks so far then; NONE if there is no snapshot.");
        LineDisc y = new LineDisc();
        due("none", y.restore(), NONE);
        due("no act", y.count(15), 0);
        y.keep();
        y.play(9);
        due("no ticks", y.restore(), 0);
        due("ticks", y.count(6), 0);
        due("an act", y.undo(), 1);
        due("ticks", y.count(6), 9);
        DOC.end();
    }

    private static void dueFrame(LineDisc x, int frame, int... want) {
        for (int what = 0; what < want.length; what++) {
            due("frame(" + frame + ", " + what + ")", x.frame(frame, what), want[what]);
        }
    }

    private static void frame() {
        DOC.section("## Promise 15: frame", "## Promise 16");
        DOC.says("`int frame(int frame, int what)`: - `frame`: a frame");
        LineDisc x = new LineDisc();
        for (int what = 0; what <= 8; what++) {
            int each = what;
            dueOutside("frame", 0, 1469, UNKNOWN, i -> x.frame(i, each));
        }
        DOC.says("- `what`: 0 for its turn, 1 for its index, 2 for its group (NONE without one), "
            + "3 for whether it is a check (1, otherwise 0),");
        dueOutside("what", 0, 8, BAD_VALUE, i -> x.frame(0, i));
        dueOutside("what, of no frame", 0, 8, UNKNOWN, i -> x.frame(1470, i));
        // 0, 3, 6, 9: runs 3 3, 3 6, 4 5, 5 4
        dueFrame(x, 0, 0, 0, 0, 0, 0, 0, 33, 97, 6);
        dueFrame(x, 19, 0, 19, 3, 1, 0, 0);
        dueFrame(x, 20, 1, 0, 4, 0, 0, 0);
        // 6, 2, 14, 10: runs 4 5, 3 5, 6 5, 5 5
        dueFrame(x, 1469, 29, 77, 293, 1, 0, 0, 38, 98, 6);
    }

    private static void frameHow() {
        DOC.says("4 for whether it is damaged (1, otherwise 0), 5 for how it is: 0 whole, 1 mended, 2 filled, 3 missing,");
        LineDisc x = Discs.scratched(1, 3, 4, 9);
        int[] damaged = {0, 1, 0, 1, 1, 0, 0, 0, 0, 1};
        int[] how = {0, 2, 0, 2, 3, 0, 0, 0, 0, 1};
        for (int frame = 0; frame < 10; frame++) {
            due("damaged " + frame, x.frame(frame, 4), damaged[frame]);
            due("how is " + frame, x.frame(frame, 5), how[frame]);
        }
        DOC.says("6 for its length, 7 for its balance and 100 (both by what stands on the disc), 8 for its longest run");
        // the frame 1 stands with 7, 10, 13, 0, whatever is told: runs 4 6, 5 5, 6 4, 3 3
        due("told", x.symbol(1, 0, true), 7);
        due("told", x.symbol(1, 1, true), 2);
        due("length of a filled one", x.frame(1, 6), 36);
        due("balance of a filled one", x.frame(1, 7), 100);
        due("longest run of a filled one", x.frame(1, 8), 6);
        due("length of a missing one", x.frame(4, 6), 38);
        due("balance of a missing one", x.frame(4, 7), 98);
        for (int place = 0; place < 4; place++) {
            x.press(1, place, 12);
        }
        due("the highest balance", x.frame(1, 7), 112);
        for (int place = 0; place < 4; place++) {
            x.press(1, place, 3);
        }
        due("the lowest balance", x.frame(1, 7), 88);
        for (int place = 0; place < 4; place++) {
            x.press(1, place, 0);
        }
        due("the shortest longest run", x.frame(1, 8), 3);
        x.press(1, 3, 1);
        due("the last run", x.frame(1, 8), 4);
        x.press(1, 0, 4);
        x.press(1, 3, 0);
        due("the first run", x.frame(1, 8), 4);
        DOC.says("Returns the number; UNKNOWN; BAD_VALUE.");
        due("UNKNOWN ahead of BAD_VALUE", x.frame(-1, -1), UNKNOWN);
        due("BAD_VALUE", x.frame(0, -1), BAD_VALUE);
        DOC.end();
    }

    private static void symbol() {
        DOC.section("## Promise 16: symbol", "## Promise 17");
        DOC.says("`int symbol(int frame, int place, boolean told)`: Tells a symbol.");
        LineDisc x = Discs.scratched(1, 3, 4, 7);
        due("on the disc", x.symbol(0, 3, false), 9);
        due("told", x.symbol(0, 3, true), 9);
        DOC.says("- `frame`: a frame - `place`: 0 to 3");
        dueOutside("frame", 0, 1469, UNKNOWN, i -> x.symbol(i, 0, true));
        dueOutside("frame", 0, 1469, UNKNOWN, i -> x.symbol(i, 4, false));
        dueOutside("place", 0, 3, BAD_VALUE, i -> x.symbol(0, i, true));
        dueOutside("place", 0, 3, BAD_VALUE, i -> x.symbol(1469, i, false));
        DOC.says("- `told`: whether as it is told by reading (whole, mended or filled), otherwise as it stands on the disc");
        due("mended, told", x.symbol(7, 1, true), (49 + 3) % 16);
        due("mended, on the disc", x.symbol(7, 1, false), (49 + 3) % 16);
        due("filled, told", x.symbol(1, 1, true), 2);
        due("filled, on the disc", x.symbol(1, 1, false), 10);
        DOC.says("Returns the symbol; UNKNOWN; BAD_VALUE; NONE if it is told by reading, and the frame is missing.");
        due("missing, told", x.symbol(4, 1, true), NONE);
        due("missing, on the disc", x.symbol(4, 1, false), 6);
        due("missing, a bad place", x.symbol(4, 4, true), BAD_VALUE);
        due("no frame", x.symbol(1470, 4, true), UNKNOWN);
        DOC.end();
    }

    private static void turn() {
        DOC.section("## Promise 17: turn", "## Promise 18");
        DOC.says("`int turn(int turn, int what)`: - `turn`: 0 to 29");
        LineDisc x = new LineDisc();
        for (int what = 0; what <= 3; what++) {
            int each = what;
            dueOutside("turn", 0, 29, UNKNOWN, i -> x.turn(i, each));
        }
        DOC.says("- `what`: 0 for how many frames it has, 1 for its first frame, 2 for how many of its frames are damaged, "
            + "3 for the length of all of its frames");
        dueOutside("what", 0, 3, BAD_VALUE, i -> x.turn(0, i));
        x.scratch(0, 35, 0, 0);
        x.scratch(18, 53, 0, 0);
        x.scratch(355, 359, 29, 29);
        int[] turns = {0, 1, 29};
        int[] frames = {20, 22, 78};
        int[] first = {0, 20, 1392};
        int[] damaged = {3, 0, 2};
        for (int i = 0; i < 3; i++) {
            due("frames", x.turn(turns[i], 0), frames[i]);
            due("first", x.turn(turns[i], 1), first[i]);
            due("damaged", x.turn(turns[i], 2), damaged[i]);
            int length = 0;
            for (int frame = first[i]; frame < first[i] + frames[i]; frame++) {
                length += x.frame(frame, 6);
            }
            due("length", x.turn(turns[i], 3), length);
        }
        LineDisc y = Discs.with(8, 0);
        int length = y.turn(1, 3);
        // the frame 8 is the first one of the turn 1, the frame 7 is not; their check is the frame 9
        y.press(8, 0, 15);
        y.press(15, 0, 9);
        due("its first and its last frame, and a check", y.turn(1, 3), length + y.frame(8, 6) + y.frame(9, 6) + y.frame(15, 6)
            - new LineDisc().frame(8, 6) - new LineDisc().frame(9, 6) - new LineDisc().frame(15, 6));
        DOC.says("Returns the number; UNKNOWN; BAD_VALUE.");
        due("UNKNOWN ahead of BAD_VALUE", x.turn(30, 4), UNKNOWN);
        due("BAD_VALUE", x.turn(29, 4), BAD_VALUE);
        DOC.end();
    }

    private static void scratchOf() {
        DOC.section("## Promise 18: scratchOf", "## Promise 19");
        DOC.says("`int scratchOf(int scratch, int what)`: Tells about a scratch.");
        LineDisc x = new LineDisc();
        x.scratch(18, 36, 2, 3);
        x.scratch(0, 359, 0, 29);
        due("of the first", x.scratchOf(0, 0), 18);
        due("of the second", x.scratchOf(1, 0), 0);
        due("no act", x.count(15), 2);
        DOC.says("- `scratch`: a scratch");
        for (int what = 0; what <= 4; what++) {
            int each = what;
            dueOutside("scratch", 0, 1, UNKNOWN, i -> x.scratchOf(i, each));
        }
        DOC.says("- `what`: 0 for the first angle, 1 for the last one, 2 for the inner turn, 3 for the outer one, "
            + "4 for how many frames are damaged by it");
        dueOutside("what", 0, 4, BAD_VALUE, i -> x.scratchOf(1, i));
        // 24 frames of 15 degrees: 1 and 2; 26 of 13 and 11/13: 1 and 2
        int[][] want = {{18, 36, 2, 3, 4}, {0, 359, 0, 29, 1470}};
        for (int scratch = 0; scratch < 2; scratch++) {
            for (int what = 0; what <= 4; what++) {
                due("scratchOf(" + scratch + ", " + what + ")", x.scratchOf(scratch, what), want[scratch][what]);
            }
        }
        for (int i = 2; i < 8; i++) {
            x.scratch(0, 0, 0, i);
        }
        due("of the eighth", x.scratchOf(7, 4), 8);
        due("of the seventh", x.scratchOf(6, 4), 7);
        DOC.says("Returns the number; UNKNOWN; BAD_VALUE.");
        due("UNKNOWN ahead of BAD_VALUE", x.scratchOf(8, 5), UNKNOWN);
        due("BAD_VALUE", x.scratchOf(7, 5), BAD_VALUE);
        due("none is there", new LineDisc().scratchOf(0, 0), UNKNOWN);
        DOC.end();
    }

    private static void count() {
        DOC.section("## Promise 19: count", "## Promise 20");
        DOC.says("`int count(int what)`: - `what`: 0 for the frames, 1 for the groups, 2 for scratches, "
            + "3 for the frame at which the head is (as many as there are frames at the end), 4 for the turn in which it is, "
            + "5 for the speed, 6 for the ticks so far, 7 for frames read so far, 8 for those of them that were whole, "
            + "9 for jumps so far, 10 to 13 for frames of the disc that are whole, mended, filled and missing, "
            + "14 for symbols pressed that are not as at first, 15 for the states in the history, 16 for the length of the text, "
            + "17 to 22 for the settings");
        LineDisc x = new LineDisc();
        dueOutside("what", 0, 22, BAD_VALUE, x::count);
        // 2 is mended; 5 and 7 are filled; 10 to 12 are missing
        x.scratch(36, 53, 0, 0);
        x.scratch(90, 107, 0, 0);
        x.scratch(126, 143, 0, 0);
        x.scratch(180, 233, 0, 0);
        x.press(0, 0, 1);
        x.press(1, 1, 1);
        x.play(7);
        x.seek(1469);
        Due.typeAll(x, "abc");
        int ticks = 7 + 30 + 6 + 5 + 77;
        dueCounts(x, 0, 1470, 294, 4, 1469, 29, 78, ticks, 7, 5, 3, 1464, 1, 2, 3, 2, 4, 3, 20, 2, 3, 1, 90, 4);
        x.play(2);
        dueCounts(x, 3, 1470, 29, 78, ticks + 1, 8, 6, 3);
        LineDisc y = new LineDisc();
        y.scratch(0, 359, 0, 29);
        dueCounts(y, 10, 0, 0, 0, 1470);
        // only frames of the disc as it is
        y.set(0, 8);
        y.set(1, 0);
        dueCounts(y, 10, 0, 0, 0, 240);
        DOC.says("Returns the number; BAD_VALUE.");
        due("-1", x.count(-1), BAD_VALUE);
        due("23", x.count(23), BAD_VALUE);
        DOC.end();
    }

    private static void right() {
        DOC.section("## Promise 20: right", "## Promise 21");
        DOC.says("`double right()`: Tells how much of the disc is told right: the data frames whose symbols are all told "
            + "as they stand on the disc, as a double, divided by all data frames.");
        DUE.dueDouble("all", new LineDisc().right(), 1.0);
        LineDisc none = new LineDisc();
        none.scratch(0, 359, 0, 29);
        DUE.dueDouble("none", none.right(), 0.0);
        DUE.dueDouble("mended", Discs.scratched(3).right(), 1.0);
        DUE.dueDouble("a missing check is no data frame", Discs.scratched(0, 4).right(), 1175.0 / 1176.0);
        // the frame 1 is told as 7, 2, 5, 8
        int[] told = {7, 2, 5, 8};
        LineDisc x = Discs.scratched(1, 3);
        x.press(3, 1, 7);
        for (int place = 0; place < 4; place++) {
            DUE.dueDouble("wrong by some of its symbols", x.right(), 1174.0 / 1176.0);
            x.press(1, place, told[place]);
        }
        DUE.dueDouble("all of its symbols are right", x.right(), 1175.0 / 1176.0);
        for (int place = 0; place < 4; place++) {
            x.press(1, place, told[place] + 1);
            DUE.dueDouble("one of them is wrong", x.right(), 1174.0 / 1176.0);
            x.press(1, place, told[place]);
        }
        rightAfterAChange();
        DOC.says("Returns the share.");
        LineDisc y = Discs.with(8, 0);
        y.scratch(0, 359, 0, 0);
        y.polish(0);
        DUE.dueDouble("all of a small disc", y.right(), 1.0);
        y.scratch(0, 180, 0, 0);
        // the frames 0 to 4 are missing
        DUE.dueDouble("a share of a small disc", y.right(), 188.0 / 192.0);
        DOC.end();
    }

    /** With the frames and the damage that there are now, though nothing else was asked since. */
    private static void rightAfterAChange() {
        LineDisc x = new LineDisc();
        x.scratch(0, 359, 0, 0);
        x.undo();
        DUE.dueDouble("undone", x.right(), 1.0);
        x.scratch(0, 359, 0, 0);
        x.set(0, 8);
        // the frames 0 to 7 are damaged: of the group 1 the data 5 to 7, of which none is filled
        DUE.dueDouble("fewer frames", x.right(), 881.0 / 888.0);
        x.set(1, 0);
        DUE.dueDouble("fewer still", x.right(), 185.0 / 192.0);
        x.undo();
        DUE.dueDouble("undone", x.right(), 881.0 / 888.0);
    }

    private static void ifSought() {
        DOC.section("## Promise 21: ifSought", "## Promise 22");
        DOC.says("`int ifSought(int frame, int what)`: Tells what seeking a frame would take.");
        LineDisc x = new LineDisc();
        x.play(30);
        x.set(3, 0);
        int[] frames = {0, 19, 20, 29, 30, 31, 41, 42, 700, 1391, 1392, 1469};
        for (int frame : frames) {
            int ticks = x.ifSought(frame, 0);
            int jumps = x.ifSought(frame, 1);
            dueCounts(x, 3, 30, 1, 22, 30, 30, 30, 0);
            int states = x.count(15);
            due("ticks of " + frame, x.seek(frame), ticks);
            due("jumps of " + frame, x.count(9), jumps);
            due("no act", x.count(15), Math.min(states + 1, 4));
            x.undo();
        }
        DOC.says("- `frame`: a frame - `what`: 0 for the ticks, 1 for the jumps");
        dueOutside("frame", 0, 1469, UNKNOWN, i -> x.ifSought(i, 0));
        dueOutside("frame", 0, 1469, UNKNOWN, i -> x.ifSought(i, 1));
        dueOutside("what", 0, 1, BAD_VALUE, i -> x.ifSought(0, i));
        due("where the head is, ticks", x.ifSought(30, 0), 0);
        due("where the head is, jumps", x.ifSought(30, 1), 0);
        x.seek(1469);
        due("jumps of this one only", x.ifSought(1469, 1), 0);
        due("ticks of this one only", x.ifSought(1469, 0), 0);
        x.set(0, 8);
        due("the last frame of the disc as it is", x.ifSought(1109, 1), 3);
        due("behind it", x.ifSought(1110, 1), UNKNOWN);
        x.set(0, 20);
        due("the last frame of the disc as it is", x.ifSought(1469, 1), 3);
        DOC.says("Returns the number; UNKNOWN; BAD_VALUE.");
        due("UNKNOWN ahead of BAD_VALUE", x.ifSought(1470, 2), UNKNOWN);
        due("BAD_VALUE", x.ifSought(1469, 2), BAD_VALUE);
        DOC.end();
    }

    private static void bestGuess() {
        DOC.section("## Promise 22: bestGuess", "## Promise 23");
        DOC.says("`int bestGuess(int frame)`: Finds the guess with which a frame is sought in the fewest ticks, of several the lowest.");
        LineDisc x = new LineDisc();
        due("no jump, so all are the same", x.bestGuess(19), 60);
        due("where the head is", x.bestGuess(0), 60);
        due("one turn, so all are the same", x.bestGuess(20), 60);
        // the lowest guess by which it is one jump
        due("two turns", x.bestGuess(42), 100);
        due("29 turns", x.bestGuess(1469), 100);
        x.seek(1469);
        due("29 turns in", x.bestGuess(0), 100);
        // without ticks of a jump several jumps are as good as one, if none goes too far
        LineDisc y = Discs.with(20, 0, 9, 5, 140, 0);
        due("all but those that go too far", y.bestGuess(580), 60);
        due("the setting is no matter", y.bestGuess(560), 60);
        // 20 ticks for each jump, so that one is best
        LineDisc z = Discs.with(20, 0, 9, 5, 90, 20);
        for (int turn = 0; turn < 30; turn++) {
            due("turn " + turn, z.bestGuess(20 * turn), turn < 2 ? 60 : 100);
        }
        due("the setting stays", z.count(21), 90);
        dueCounts(z, 3, 0, 0, 20, 0, 0, 0, 0);
        LineDisc w = new LineDisc();
        due("two turns", w.bestGuess(42), 100);
        due("no act", w.count(15), 0);
        bestGuessWithASlowMotor();
        DOC.says("- `frame`: a frame");
        dueOutside("frame", 0, 1469, UNKNOWN, x::bestGuess);
        DOC.says("Returns the setting 4, 60 to 140; UNKNOWN.");
        for (int turn = 0; turn < 30; turn += 3) {
            dueBestOfAll(turn, 20, 2, 3, 1, 90, 4);
        }
        x.set(0, 8);
        due("the last frame of the disc as it is", x.bestGuess(1109), 100);
        due("behind it", x.bestGuess(1110), UNKNOWN);
        x.set(0, 40);
        due("the last frame of the disc as it is", x.bestGuess(2069), 100);
        DOC.end();
    }

    /** By all guesses, one after the other: the lowest of those with the fewest ticks. */
    private static void dueBestOfAll(int turn, int... settings) {
        LineDisc x = Discs.with(settings);
        x.play(3);
        int frame = x.turn(turn, 1);
        int answer = x.bestGuess(frame);
        int best = 0;
        int fewest = MAX;
        for (int guess = 140; guess >= 60; guess--) {
            x.set(4, guess);
            int ticks = x.ifSought(frame, 0);
            best = ticks <= fewest ? guess : best;
            fewest = Math.min(ticks, fewest);
        }
        due("bestGuess for the turn " + turn, answer, best);
    }

    /** With a slow motor ticks of jumps are no worse than ticks of waiting, so the best guess may be any. */
    private static void bestGuessWithASlowMotor() {
        dueBestOfAll(13, 32, 4, 1, 0, 90, 8);
        dueBestOfAll(14, 22, 4, 2, 4, 90, 3);
        dueBestOfAll(11, 9, 4, 1, 0, 90, 10);
        dueBestOfAll(21, 21, 4, 3, 4, 90, 2);
        dueBestOfAll(29, 8, 5, 4, 2, 90, 2);
        dueBestOfAll(26, 39, 6, 5, 2, 90, 2);
        dueBestOfAll(1, 8, 6, 9, 0, 60, 20);
        due("an answer between", Discs.with(32, 4, 1, 0, 90, 8).bestGuess(728), 62);
        due("an answer between", Discs.with(39, 6, 5, 2, 140, 2).bestGuess(2964), 97);
    }

    private static void polishFirst() {
        DOC.section("## Promise 23: polishFirst", "## Promise 24");
        DOC.says("`int polishFirst(int what)`: Finds the scratch without which the fewest frames would be missing, of several the lowest.");
        // 0 and 1, 5 to 7, and 10 to 12 are missing
        LineDisc x = new LineDisc();
        x.scratch(0, 35, 0, 0);
        x.scratch(90, 143, 0, 0);
        x.scratch(180, 233, 0, 0);
        due("of the last two the first", x.polishFirst(0), 1);
        due("missing then", x.polishFirst(1), 5);
        due("nothing is changed", x.count(13), 8);
        due("nothing is changed", x.count(2), 3);
        due("no act", x.count(15), 3);
        x.polish(1);
        due("the last one", x.polishFirst(0), 1);
        due("missing then", x.polishFirst(1), 2);
        // mended or filled ones do not count: 0 is mended, 5 and 7 are filled
        LineDisc y = Discs.scratched(0, 5, 7);
        due("of several the lowest", y.polishFirst(0), 0);
        due("none would be missing", y.polishFirst(1), 0);
        // fewest missing, not fewest damaged: without 0 all of 5 to 9 are missing, without 1 there is 0
        LineDisc z = new LineDisc();
        z.scratch(0, 0, 0, 29);
        z.scratch(90, 107, 0, 0);
        z.scratch(108, 125, 0, 0);
        due("the smaller one", z.polishFirst(0), 1);
        due("none would be missing", z.polishFirst(1), 0);
        due("as it says", z.polish(1), 31);
        due("missing", z.count(13), 0);
        DOC.says("- `what`: 0 for the scratch, 1 for how many frames would be missing then");
        dueOutside("what", 0, 1, BAD_VALUE, x::polishFirst);
        LineDisc eight = Discs.scratched(0, 0, 0, 0, 0, 0, 0, 1);
        due("the eighth of eight", eight.polishFirst(0), 7);
        due("missing then", eight.polishFirst(1), 0);
        LineDisc first = Discs.scratched(0, 1, 1, 1, 1, 1, 1, 1);
        due("the first of eight", first.polishFirst(0), 0);
        due("missing then", first.polishFirst(1), 0);
        DOC.says("Returns the number; BAD_VALUE; NONE if there are no scratches.");
        LineDisc none = new LineDisc();
        due("none", none.polishFirst(0), NONE);
        due("none", none.polishFirst(1), NONE);
        dueOutside("what, without scratches", 0, 1, BAD_VALUE, none::polishFirst);
        none.scratch(0, 0, 0, 0);
        due("one", none.polishFirst(0), 0);
        due("one", none.polishFirst(1), 0);
        none.polish(0);
        due("none again", none.polishFirst(0), NONE);
        DOC.end();
    }

    private static void gap() {
        DOC.section("## Promise 24: gap", "## Not promised");
        DOC.says("`int gap(int what)`: Finds the longest row of missing frames one after the other by their numbers, of several the first one.");
        // 0 alone, 5 to 7, and 10 to 12
        LineDisc x = Discs.scratched(0, 2);
        x.scratch(90, 143, 0, 0);
        x.scratch(180, 233, 0, 0);
        due("of several the first", x.gap(0), 5);
        due("frames", x.gap(1), 3);
        x.scratch(234, 251, 0, 0);
        due("the longest", x.gap(0), 10);
        due("frames", x.gap(1), 4);
        // from one turn to the next: 40 and 41 are in the turn 1, 42 in the turn 2
        LineDisc y = new LineDisc();
        y.scratch(330, 359, 1, 1);
        y.scratch(0, 0, 2, 2);
        due("over the end of a turn", y.gap(0), 40);
        due("frames", y.gap(1), 3);
        // over a check: 8 and 9, 10 and 11 are missing
        due("over a check", Discs.scratched(8, 9, 10, 11).gap(0), 8);
        due("over a check", Discs.scratched(8, 9, 10, 11).gap(1), 4);
        // to the last frame, and from the first one
        LineDisc z = new LineDisc();
        z.scratch(347, 359, 29, 29);
        due("to the last frame", z.gap(0), 1467);
        due("frames", z.gap(1), 3);
        z.scratch(0, 71, 0, 0);
        due("from the first frame", z.gap(0), 0);
        due("frames", z.gap(1), 4);
        z.scratch(0, 359, 0, 29);
        due("all", z.gap(0), 0);
        due("all", z.gap(1), 1470);
        z.set(0, 8);
        due("all of a smaller disc", z.gap(1), 1110);
        z.set(1, 6);
        due("all of a larger disc", z.gap(1), 2850);
        z.undo();
        due("all of a smaller disc", z.gap(1), 1110);
        DOC.says("- `what`: 0 for its first frame, 1 for how many frames it has");
        dueOutside("what", 0, 1, BAD_VALUE, x::gap);
        due("one frame", Discs.scratched(0, 2).gap(0), 0);
        due("one frame", Discs.scratched(0, 2).gap(1), 1);
        DOC.says("Returns the number; BAD_VALUE; NONE if none is missing.");
        LineDisc none = new LineDisc();
        due("no damage", none.gap(0), NONE);
        due("no damage", none.gap(1), NONE);
        dueOutside("what, none missing", 0, 1, BAD_VALUE, none::gap);
        due("mended", Discs.scratched(0, 5, 10).gap(0), NONE);
        due("filled", Discs.scratched(1, 3).gap(0), NONE);
        due("filled", Discs.scratched(1, 3).gap(1), NONE);
        DOC.end();
    }
}
