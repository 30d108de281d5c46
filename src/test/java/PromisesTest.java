/** For each promise of the document, answers worked out by hand from its words. */
public final class PromisesTest {
    private static final int UNKNOWN = -1;
    private static final int BAD_VALUE = -2;
    private static final int FULL = -3;
    private static final int NOT_POSSIBLE = -4;
    private static final int NONE = -5;
    private static final int MIN = Integer.MIN_VALUE;
    private static final int MAX = Integer.MAX_VALUE;

    private static final Due DUE = new Due();

    public static void main(String[] args) {
        promise1NewObject();
        promise2Press();
        promise2PressWithoutRoom();
        promise2PressBehindTheDisc();
        promise3Scratch();
        promise3ScratchEdges();
        promise4Polish();
        promise5Set();
        promise6Play();
        promise6PlayWhole();
        promise7Seek();
        promise7SeekJumps();
        promise8Type();
        promise9ClearText();
        promise10Fault();
        promise10FaultOfNumbers();
        promise11DoAll();
        promise11DoAllOrNone();
        promise12Undo();
        promise12ActsThatAreRecorded();
        promise12UndoOfEachAct();
        promise12DamageFollows();
        promise13Keep();
        promise14Restore();
        promise15Frame();
        promise15HowFramesAre();
        promise15Ends();
        promise16Symbol();
        promise17Turn();
        promise18ScratchOf();
        promise19Count();
        promise20Right();
        promise21IfSought();
        promise22BestGuess();
        promise23PolishFirst();
        promise24Gap();
        DUE.close();
    }

    private static void due(String call, long got, long want) {
        DUE.due(call, got, want);
    }

    private static void dueCounts(LineDisc x, int from, int... want) {
        for (int i = 0; i < want.length; i++) {
            due("count(" + (from + i) + ")", x.count(from + i), want[i]);
        }
    }

    private static void promise1NewObject() {
        DUE.part("promise 1");
        LineDisc x = new LineDisc();
        dueCounts(x, 0, 1470, 294, 0, 0, 0, 20, 0, 0, 0, 0, 1470, 0, 0, 0, 0, 0, 0, 20, 2, 3, 1, 90, 4);
        due("undo()", x.undo(), NONE);
        due("restore()", x.restore(), NONE);
        due("clearText()", x.clearText(), 0);
    }

    private static void promise2Press() {
        DUE.part("promise 2");
        LineDisc x = new LineDisc();
        due("press off", x.press(-1, 0, 0), UNKNOWN);
        due("press off", x.press(1470, 4, 16), UNKNOWN);
        due("press off", x.press(MIN, 0, 0), UNKNOWN);
        due("press off", x.press(MAX, 0, 0), UNKNOWN);
        due("place -1", x.press(4, -1, 0), BAD_VALUE);
        due("place 4", x.press(4, 4, 0), BAD_VALUE);
        due("symbol -1", x.press(4, 0, -1), BAD_VALUE);
        due("symbol 16", x.press(4, 0, 16), BAD_VALUE);
        due("check", x.press(4, 0, 10), NOT_POSSIBLE);
        due("last frame is a check", x.press(1469, 3, 0), NOT_POSSIBLE);
        due("the same", x.press(3, 3, (21 + 9) % 16), NONE);
        due("nothing recorded", x.count(15), 0);
        // at the place 3: 9, 0, 7, 14 have the sum 30, so the check has 14
        due("check before", x.symbol(4, 3, false), 14);
        due("press", x.press(3, 3, 1), 14);
        due("stands", x.symbol(3, 3, false), 1);
        due("other places stay", x.symbol(3, 2, false), (21 + 6) % 16);
        due("check follows", x.symbol(4, 3, false), 1);
        due("checks of others stay", x.symbol(9, 3, true), 10);
        due("again", x.press(3, 3, 15), 1);
        due("one symbol", x.count(14), 1);
        due("back", x.press(3, 3, 14), 15);
        due("none left", x.count(14), 0);
        due("recorded", x.count(15), 3);
    }

    private static void promise2PressWithoutRoom() {
        DUE.part("promise 2, without room");
        LineDisc x = new LineDisc();
        for (int i = 0; i < 40; i++) {
            int frame = Discs.dataFrame(i);
            int old = Discs.atFirst(frame, i % 4);
            due("press " + i, x.press(frame, i % 4, (old + 1) % 16), old);
        }
        due("40 symbols", x.count(14), 40);
        int other = Discs.dataFrame(40);
        due("no room", x.press(other, 0, (Discs.atFirst(other, 0) + 1) % 16), FULL);
        due("no room at another place", x.press(0, 1, 0), FULL);
        due("the same", x.press(other, 0, Discs.atFirst(other, 0)), NONE);
        due("check", x.press(4, 0, 0), NOT_POSSIBLE);
        due("bad value", x.press(other, 0, 16), BAD_VALUE);
        due("unknown", x.press(1470, 0, 0), UNKNOWN);
        due("one of them", x.press(0, 0, 9), 1);
        due("the last of them", x.press(Discs.dataFrame(39), 3, Discs.atFirst(Discs.dataFrame(39), 3)), Discs.atFirst(Discs.dataFrame(39), 3) + 1);
        due("39 symbols", x.count(14), 39);
        due("room again", x.press(other, 0, 0), Discs.atFirst(other, 0));
        due("40 symbols", x.count(14), 40);
        due("no room", x.press(0, 1, 0), FULL);
        due("first of them to as at first", x.press(0, 0, 0), 9);
        for (int i = 1; i < 39; i++) {
            int frame = Discs.dataFrame(i);
            due("stays " + i, x.symbol(frame, i % 4, false), (Discs.atFirst(frame, i % 4) + 1) % 16);
        }
    }

    private static void promise2PressBehindTheDisc() {
        DUE.part("promise 2, behind the disc");
        LineDisc x = new LineDisc();
        due("press", x.press(1468, 3, 0), 13);
        due("set", x.set(0, 8), 20);
        due("not on the disc", x.symbol(1468, 3, false), UNKNOWN);
        due("not on the disc", x.press(1468, 3, 13), UNKNOWN);
        due("counts still", x.count(14), 1);
        due("set", x.set(0, 20), 8);
        due("stays", x.symbol(1468, 3, false), 0);
        // 7 * 1465 + 9 and so on: 4, 11, 2 and 0 where 9 was
        due("its check", x.symbol(1469, 3, false), (8 + 15 + 6 + 0) % 16);
    }

    private static void promise3Scratch() {
        DUE.part("promise 3");
        LineDisc x = new LineDisc();
        due("from -1", x.scratch(-1, 0, 0, 0), BAD_VALUE);
        due("to 360", x.scratch(0, 360, 0, 0), BAD_VALUE);
        due("from 360", x.scratch(360, 360, 0, 0), BAD_VALUE);
        due("to before from", x.scratch(10, 9, 0, 0), BAD_VALUE);
        due("inner -1", x.scratch(0, 0, -1, 0), BAD_VALUE);
        due("outer before inner", x.scratch(0, 0, 2, 1), BAD_VALUE);
        due("outer 30", x.scratch(0, 0, 0, 30), BAD_VALUE);
        due("inner 30", x.scratch(0, 0, 30, 30), BAD_VALUE);
        due("extremes", x.scratch(MIN, MAX, MIN, MAX), BAD_VALUE);
        due("none yet", x.count(2), 0);
        due("all of it", x.scratch(0, 359, 0, 29), 1470);
        due("once more", x.scratch(359, 359, 29, 29), 1470);
        for (int i = 2; i < 8; i++) {
            due("scratch " + i, x.scratch(i, i, i, i), 1470);
        }
        due("eight", x.count(2), 8);
        due("ninth", x.scratch(0, 0, 0, 0), FULL);
        due("ninth, bad", x.scratch(0, 0, 0, 30), BAD_VALUE);
        due("eight", x.count(2), 8);
    }

    private static int damaged(int from, int to, int inner, int outer, int... settings) {
        return Discs.with(settings).scratch(from, to, inner, outer);
    }

    private static void promise3ScratchEdges() {
        DUE.part("promise 3, edges");
        // 20 frames of 18 degrees
        due("17", damaged(17, 17, 0, 0), 1);
        due("18", damaged(18, 18, 0, 0), 1);
        due("17 and 18", damaged(17, 18, 0, 0), 2);
        due("18 to 35", damaged(18, 35, 0, 0), 1);
        due("18 to 36", damaged(18, 36, 0, 0), 2);
        due("359", damaged(359, 359, 0, 0), 1);
        due("0 to 359", damaged(0, 359, 0, 0), 20);
        // 19 frames of 18 degrees and 18/19: the frame 1 begins 1/19 of a degree ahead of 19
        due("18 of 19", damaged(18, 18, 0, 0, 19), 2);
        due("17 of 19", damaged(17, 17, 0, 0, 19), 1);
        due("19 of 19", damaged(19, 19, 0, 0, 19), 1);
        // 22 frames of 16 degrees and 4/11: the frame 1 begins within the degree 16
        due("15", damaged(15, 15, 1, 1), 1);
        due("16", damaged(16, 16, 1, 1), 2);
        due("17", damaged(17, 17, 1, 1), 1);
        // 214 frames of 1 degree and 73/107
        due("0 of 214", damaged(0, 0, 29, 29, 40, 6), 1);
        due("1 of 214", damaged(1, 1, 29, 29, 40, 6), 2);
        due("358 of 214", damaged(358, 358, 29, 29, 40, 6), 2);
        due("359 of 214", damaged(359, 359, 29, 29, 40, 6), 1);
        due("all of the largest", damaged(0, 359, 0, 29, 40, 6), 3810);
        due("turns of 8", damaged(44, 45, 3, 7, 8, 0), 10);
        LineDisc x = new LineDisc();
        due("18 to 35", x.scratch(18, 35, 0, 0), 1);
        due("0", x.frame(0, 4), 0);
        due("1", x.frame(1, 4), 1);
        due("2", x.frame(2, 4), 0);
        due("the next turn", x.frame(21, 4), 0);
        due("more of them", x.scratch(0, 35, 0, 0), 2);
        due("the last turn", x.scratch(0, 0, 29, 29), 3);
        due("its frame", x.frame(1392, 4), 1);
    }

    private static void promise4Polish() {
        DUE.part("promise 4");
        LineDisc x = new LineDisc();
        due("none", x.polish(0), UNKNOWN);
        due("scratch", x.scratch(0, 0, 0, 9), 10);
        due("scratch", x.scratch(0, 17, 0, 0), 10);
        due("scratch", x.scratch(180, 190, 3, 3), 11);
        due("-1", x.polish(-1), UNKNOWN);
        due("3", x.polish(3), UNKNOWN);
        due("extreme", x.polish(MAX), UNKNOWN);
        due("extreme", x.polish(MIN), UNKNOWN);
        due("polish", x.polish(0), 2);
        due("left", x.count(2), 2);
        due("moved up", x.scratchOf(0, 1), 17);
        due("moved up", x.scratchOf(1, 0), 180);
        due("moved up", x.scratchOf(1, 1), 190);
        due("moved up", x.scratchOf(1, 2), 3);
        due("moved up", x.scratchOf(1, 3), 3);
        due("gone", x.scratchOf(2, 0), UNKNOWN);
        due("polish the last", x.polish(1), 1);
        due("polish", x.polish(0), 0);
        due("recorded", x.undo(), 3);
        due("back", x.count(2), 1);
        LineDisc y = new LineDisc();
        for (int i = 0; i < 8; i++) {
            due("scratch " + i, y.scratch(18 * i, 18 * i, 0, i), y.count(0) - y.count(10));
        }
        due("polish the eighth", y.polish(7), y.count(0) - y.count(10));
        due("seven", y.count(2), 7);
        due("the seventh stays", y.scratchOf(6, 0), 108);
    }

    private static void promise5Set() {
        DUE.part("promise 5");
        LineDisc x = new LineDisc();
        int[] first = {20, 2, 3, 1, 90, 4};
        int[] lowest = {8, 0, 1, 0, 60, 0};
        int[] highest = {40, 6, 9, 5, 140, 20};
        for (int i = 0; i < 6; i++) {
            due("too low " + i, x.set(i, lowest[i] - 1), BAD_VALUE);
            due("too high " + i, x.set(i, highest[i] + 1), BAD_VALUE);
            due("extreme " + i, x.set(i, MIN), BAD_VALUE);
            due("extreme " + i, x.set(i, MAX), BAD_VALUE);
            due("so already " + i, x.set(i, first[i]), NONE);
            due("lowest " + i, x.set(i, lowest[i]), first[i]);
            due("highest " + i, x.set(i, highest[i]), lowest[i]);
            due("told " + i, x.count(17 + i), highest[i]);
            due("so already " + i, x.set(i, highest[i]), NONE);
        }
        due("-1", x.set(-1, 1), BAD_VALUE);
        due("6", x.set(6, 1), BAD_VALUE);
        due("extreme", x.set(MIN, 1), BAD_VALUE);
        due("extreme", x.set(MAX, 1), BAD_VALUE);
        due("frames", x.count(0), 3810);
        headAfterSet();
    }

    private static void headAfterSet() {
        LineDisc x = new LineDisc();
        due("play", x.play(50), 50);
        int ticks = x.count(6);
        for (int i = 2; i < 6; i++) {
            x.set(i, i == 4 ? 100 : 2);
            due("head stays", x.count(3), 50);
            due("speed stays", x.count(5), 24);
        }
        due("so already", x.set(0, 20), NONE);
        due("head stays", x.count(3), 50);
        due("set", x.set(0, 21), 20);
        dueCounts(x, 3, 0, 0, 21, ticks, 50, 50, 0);
        due("play", x.play(25), 25);
        due("set", x.set(1, 5), 2);
        dueCounts(x, 3, 0, 0, 21);
        due("read stays", x.count(7), 75);
    }

    private static void promise6Play() {
        DUE.part("promise 6");
        LineDisc x = Discs.with(20, 2, 1, 0);
        due("0", x.play(0), BAD_VALUE);
        due("1000", x.play(1000), BAD_VALUE);
        due("extreme", x.play(MIN), BAD_VALUE);
        due("extreme", x.play(MAX), BAD_VALUE);
        // 20 ticks in the turn 0; in the turn 1 the speed needs two ticks from 20 to 22
        due("play", x.play(20), 20);
        dueCounts(x, 3, 20, 1, 20, 20, 20, 20);
        due("play", x.play(1), 1);
        dueCounts(x, 3, 21, 1, 22, 22, 21, 21);
        due("play", x.play(21), 21);
        dueCounts(x, 3, 42, 2, 22, 43);
        // off by one is near enough with the setting 3 at 1
        LineDisc y = Discs.with(20, 2, 1, 1);
        due("play", y.play(21), 21);
        dueCounts(y, 3, 21, 1, 21, 21);
        due("play", y.play(1), 1);
        dueCounts(y, 3, 22, 1, 22, 22);
        due("999", y.play(999), 999);
        due("to the end", y.play(999), 1470 - 22 - 999);
        dueCounts(y, 3, 1470, 29, 78, 1470, 1470, 1470, 0);
        int states = y.count(15);
        due("at the end", y.play(1), NONE);
        due("at the end, bad", y.play(0), BAD_VALUE);
        due("nothing recorded", y.count(15), states);
        due("ticks stay", y.count(6), 1470);
    }

    private static void promise6PlayWhole() {
        DUE.part("promise 6, whole frames");
        LineDisc x = new LineDisc();
        // the frames 1 and 6 are mended, which is not whole; 10 and 11 are missing
        x.scratch(18, 18, 0, 0);
        x.scratch(108, 108, 0, 0);
        x.scratch(180, 200, 0, 0);
        due("play", x.play(3), 2);
        dueCounts(x, 7, 3, 2);
        due("play", x.play(17), 14);
        dueCounts(x, 7, 20, 16);
        due("play one", x.play(1), 1);
        due("seek", x.seek(10), 5 - 1 + 1 + 10);
        due("none whole", x.play(1), 0);
        dueCounts(x, 7, 22, 17);
        due("an act", x.undo(), 3);
        dueCounts(x, 7, 21, 17);
    }

    private static void promise7Seek() {
        DUE.part("promise 7");
        LineDisc x = new LineDisc();
        due("-1", x.seek(-1), UNKNOWN);
        due("1470", x.seek(1470), UNKNOWN);
        due("extreme", x.seek(MIN), UNKNOWN);
        due("extreme", x.seek(MAX), UNKNOWN);
        due("nothing recorded", x.count(15), 0);
        due("there already", x.seek(0), 0);
        due("an act all the same", x.count(15), 1);
        due("on", x.seek(19), 19);
        dueCounts(x, 3, 19, 0, 20, 19, 0, 0, 0);
        // behind the wanted one: the rest of the turn is the frame 19 alone
        due("back", x.seek(18), 1 + 18);
        due("to the first", x.seek(0), 2);
        due("next turn", x.seek(20), 5);
        dueCounts(x, 3, 20, 1, 22, 45, 0, 0, 1);
        due("end of the turn", x.seek(41), 21);
        due("last frame", x.seek(1469), 29 + 6 + 5 + 77);
        due("play", x.play(1), 1);
        dueCounts(x, 3, 1470, 29, 78);
        // no rest of the turn is left at the end
        due("from the end", x.seek(1400), 8);
        due("play to the end", x.play(70), 70);
        due("from the end", x.seek(1392), 0);
        due("jumps", x.count(9), 4);
        waits();
    }

    private static void waits() {
        LineDisc x = Discs.with(8, 6, 1, 0);
        // a jump of 5 ticks: from 8 to 13; one tick more for 14
        due("out", x.seek(8), 6);
        dueCounts(x, 3, 8, 1, 14);
        due("in", x.seek(7), 5 + 1 + 7);
        dueCounts(x, 3, 7, 0, 8);
        LineDisc y = Discs.with(8, 6, 1, 5, 90, 0);
        // a jump of 1 tick: from 8 to 9, which is 5 off
        due("near enough", y.seek(8), 1);
        due("speed stays", y.seek(10), 2);
        due("speed", y.count(5), 9);
        LineDisc z = Discs.with(8, 6, 1, 4, 90, 0);
        due("not near enough", z.seek(8), 2);
        due("speed", z.count(5), 10);
        // the speed is off already where no jump is needed
        due("off", z.set(3, 0), 4);
        due("wait, then on", z.seek(9), 4 + 1);
        due("speed", z.count(5), 14);
    }

    private static void promise7SeekJumps() {
        DUE.part("promise 7, jumps");
        LineDisc x = Discs.with(20, 2, 3, 1, 140, 4);
        // 40 turns by the guess, 29 are there
        due("not beyond 29", x.seek(1392), 33);
        due("one jump", x.count(9), 1);
        due("speed", x.count(5), 78);
        due("not beyond 0", x.seek(0), 33);
        due("speed", x.count(5), 20);
        // 7 turns out, 2 back
        due("too far", x.seek(120), 11 + 6);
        dueCounts(x, 3, 120, 5, 30);
        due("jumps", x.count(9), 4);
        LineDisc y = Discs.with(20, 2, 3, 1, 60, 0);
        // 1.8, 1.2 and 0.6 turns
        due("out", y.seek(66), 3);
        due("jumps", y.count(9), 3);
        due("in, rounded towards 0", y.seek(0), 3);
        due("jumps", y.count(9), 6);
        due("to the turn 3", y.seek(66), 3);
        due("in by one at least", y.seek(42), 1);
        due("jumps", y.count(9), 10);
        due("turn", y.count(4), 2);
        LineDisc z = Discs.with(20, 0, 1, 0, 100, 20);
        due("right at once", z.seek(599), 20 + 29 + 19);
        due("one jump", z.count(9), 1);
        due("undo", z.undo(), 3);
        dueCounts(z, 3, 0, 0, 20, 0, 0, 0, 0);
    }

    private static void promise8Type() {
        DUE.part("promise 8");
        LineDisc x = new LineDisc();
        for (int i = 1; i <= 60; i++) {
            due("type", x.type((char) (i * 1100)), i);
        }
        due("61st", x.type('a'), FULL);
        due("length", x.count(16), 60);
        due("nothing recorded", x.count(15), 0);
        due("undo leaves it", x.undo(), NONE);
        due("clear", x.clearText(), 60);
        due("type", x.type((char) 0), 1);
        due("type", x.type((char) 65535), 2);
        due("fault", x.fault(), 0);
    }

    private static void promise9ClearText() {
        DUE.part("promise 9");
        LineDisc x = new LineDisc();
        due("empty", x.clearText(), 0);
        due("type", Due.typeAll(x, "seek=1"), 6);
        due("clear", x.clearText(), 6);
        due("empty", x.count(16), 0);
        due("empty", x.clearText(), 0);
        due("fault", x.fault(), 0);
        due("nothing recorded", x.count(15), 0);
        // nothing of a longer text that was cleared may be read on
        Due.typeAll(x, "seek=123;seek=4");
        Due.typeAll(x, "seek=");
        due("fault", x.fault(), 5);
        x.type('7');
        due("fault", x.fault(), NONE);
        due("doAll", x.doAll(), 1);
        due("head", x.count(3), 7);
    }

    private static void dueFault(String text, int want) {
        LineDisc x = new LineDisc();
        Due.typeAll(x, text);
        due("fault of " + text, x.fault(), want);
        due("doAll of " + text, want == NONE ? 0 : x.doAll(), want == NONE ? 0 : -100 - want);
    }

    private static void promise10Fault() {
        DUE.part("promise 10");
        String[] whole = {"scratch=0-0@0-0", "scratch=359-0@29-0", "polish=9", "seek=9999", "play=999", "press=9999.3:15",
            "seek=0;play=1;polish=0;press=0.0:0;scratch=1-2@3-4", "play=1;play=1;play=1;play=1;play=1;play=1;play=1;play=1111"};
        for (int i = 0; i < 7; i++) {
            dueFault(whole[i], NONE);
            for (int end = 0; end < whole[i].length(); end++) {
                dueUnfinished(whole[i], end);
            }
        }
        // seven times seven signs, "play=" and three digits
        dueFault(whole[7], 49 + 5 + 3);
        String[] texts = {"", "x", "S", "=", ";", "1", " seek=1", "seek =1", "se", "sx", "scr", "sck", "pr", "pl", "po", "pa",
            "plx", "play", "playx", "pressx", "press-", "seek:", "seek=", "seek=1;", "seek=1;;", "seek=1;s", "seek=1;x",
            "seek=1 ", "seek=1,", "polish=1;polish", "seek=1;polish=x", "scratch=1@", "scratch=1-2-", "scratch=1-2@3@",
            "press=1:", "press=1.1.", "press=1.1:;", "poly", "player=1", "presses=1", "polish=", "polish=;"};
        int[] faults = {0, 0, 0, 0, 0, 0, 0, 4, 2, 1, 3, 2, 2, 2, 2, 1,
            2, 4, 4, 5, 5, 4, 5, 7, 7, 8, 7,
            6, 6, 15, 14, 9, 11, 13,
            7, 9, 10, 3, 4, 5, 7, 7};
        for (int i = 0; i < texts.length; i++) {
            dueFault(texts[i], faults[i]);
        }
    }

    /** A text that ends too early has its length as its fault, unless it is whole where it ends. */
    private static void dueUnfinished(String text, int end) {
        boolean digitBefore = end > 0 && Character.isDigit(text.charAt(end - 1));
        String start = text.substring(0, end);
        String last = start.substring(start.lastIndexOf(';') + 1);
        boolean lastNumber = last.startsWith("scratch=") ? last.indexOf('-', last.indexOf('@') + 1) > 0 && last.indexOf('@') > 0
            : !last.startsWith("press=") || last.indexOf(':') > 0;
        dueFault(start, digitBefore && lastNumber ? NONE : end);
    }

    private static void promise10FaultOfNumbers() {
        DUE.part("promise 10, numbers");
        String[] texts = {"scratch=360-0@0-0", "scratch=36-0@0-0", "scratch=359-360@0-0", "scratch=0-0@30-0", "scratch=0-0@3-0",
            "scratch=0-0@0-30", "scratch=0-0@0-29", "scratch=0-0@0-290", "scratch=00", "scratch=01", "scratch=-1",
            "scratch=1000", "scratch=400", "polish=10", "polish=00", "polish=0", "seek=10000", "seek=00", "seek=01", "seek=0",
            "seek=-1", "play=0", "play=01", "play=1000", "play=100", "press=10000", "press=1.4:0", "press=1.10:0",
            "press=1.00:0", "press=1.1:16", "press=1.1:15", "press=1.1:1", "press=1.1:150", "press=1.1:2", "press=1.1:20",
            "press=1.1:00", "press=01", "seek=1a", "seek=a", "scratch=0-0@09"};
        int[] faults = {10, NONE, 14, 13, NONE,
            15, NONE, 16, 9, 9, 8,
            11, 10, 8, 8, NONE, 9, 6, 6, NONE,
            5, 5, 5, 8, NONE, 10, 8, 9,
            9, 11, NONE, NONE, 12, NONE, 11,
            11, 7, 6, 5, 13};
        for (int i = 0; i < texts.length; i++) {
            dueFault(texts[i], faults[i]);
        }
    }

    private static void promise11DoAll() {
        DUE.part("promise 11");
        LineDisc x = new LineDisc();
        due("empty", x.doAll(), -100);
        Due.typeAll(x, "scratch=0-35@0-0;press=0.1:5;seek=3;play=2;polish=0");
        due("orders", x.doAll(), 5);
        due("text stays", x.count(16), 51);
        due("one act", x.count(15), 1);
        due("polished", x.count(2), 0);
        due("pressed", x.symbol(0, 1, false), 5);
        dueCounts(x, 3, 5, 0, 20, 5, 2, 2);
        due("again", x.doAll(), 5);
        due("press is so already", x.symbol(0, 1, false), 5);
        due("one act", x.count(15), 2);
        due("undo", x.undo(), 1);
        due("undo", x.undo(), 0);
        dueCounts(x, 3, 0, 0, 20, 0, 0, 0);
        due("undone", x.symbol(0, 1, false), 3);
        // an order that returns NONE is no error, and the orders are an act all the same
        Due.typeAll(x, "press=0.0:0");
        due("orders", x.doAll(), 1);
        due("recorded", x.count(15), 1);
        Due.typeAll(x, "play=1;play=1;play=1;play=1;play=1;play=1;play=1;play=2;p");
        due("fault", x.doAll(), -100 - 57);
        x.clearText();
        Due.typeAll(x, "play=1;play=1;play=1;play=1;play=1;play=1;play=1;seek=0");
        due("eight orders", x.doAll(), 8);
        dueCounts(x, 6, 7 + 13, 7);
    }

    private static void promise11DoAllOrNone() {
        DUE.part("promise 11, or none");
        LineDisc x = new LineDisc();
        x.scratch(0, 0, 0, 0);
        Due.typeAll(x, "press=0.0:9;seek=9;play=3;polish=0;polish=0;seek=9999");
        due("first error", x.doAll(), UNKNOWN);
        dueCounts(x, 2, 1, 0, 0, 20, 0, 0, 0);
        due("damage is back", x.frame(0, 5), 1);
        due("not pressed", x.count(14), 0);
        due("nothing recorded", x.count(15), 1);
        Due.typeAll(x, "seek=1;scratch=5-4@0-0;polish=9");
        due("bad value", x.doAll(), BAD_VALUE);
        Due.typeAll(x, "seek=1;scratch=5-5@4-0;polish=9");
        due("bad value", x.doAll(), BAD_VALUE);
        Due.typeAll(x, "press=4.0:1;seek=9999");
        due("not possible", x.doAll(), NOT_POSSIBLE);
        Due.typeAll(x, "seek=1469;play=2;seek=1470");
        due("unknown", x.doAll(), UNKNOWN);
        for (int i = 0; i < 7; i++) {
            x.scratch(0, 0, 0, 0);
        }
        Due.typeAll(x, "scratch=0-0@0-0;polish=8");
        due("full", x.doAll(), FULL);
        Due.typeAll(x, "polish=0;scratch=9-9@9-9;seek=1");
        due("room", x.doAll(), 3);
        due("moved up", x.scratchOf(7, 0), 9);
    }

    private static void promise12Undo() {
        DUE.part("promise 12");
        LineDisc x = new LineDisc();
        due("empty", x.undo(), NONE);
        for (int i = 1; i <= 6; i++) {
            due("seek", x.seek(i), 1);
            due("states", x.count(15), Math.min(i, 4));
        }
        Due.typeAll(x, "abc");
        for (int i = 3; i >= 0; i--) {
            due("undo", x.undo(), i);
            due("head", x.count(3), i + 2);
            due("ticks", x.count(6), i + 2);
        }
        due("the oldest are dropped", x.undo(), NONE);
        due("head", x.count(3), 2);
        due("text stays", x.count(16), 3);
        x.press(0, 0, 1);
        x.press(0, 0, 2);
        x.scratch(0, 17, 0, 0);
        x.set(0, 30);
        due("undo set", x.undo(), 3);
        dueCounts(x, 17, 20);
        dueCounts(x, 3, 2, 0, 20);
        due("undo scratch", x.undo(), 2);
        due("whole", x.frame(0, 4), 0);
        due("undo press", x.undo(), 1);
        due("symbol", x.symbol(0, 0, true), 1);
        due("another act", x.seek(9), 7);
        due("undo it", x.undo(), 1);
        due("undo press", x.undo(), 0);
        due("symbol", x.symbol(0, 0, true), 0);
        due("none", x.count(14), 0);
    }

    private static void promise12ActsThatAreRecorded() {
        DUE.part("promise 12, acts");
        LineDisc x = new LineDisc();
        x.press(0, 0, 16);
        x.press(0, 0, 0);
        x.press(4, 0, 0);
        x.press(-1, 0, 0);
        x.scratch(0, 360, 0, 0);
        x.polish(0);
        x.set(0, 20);
        x.set(0, 41);
        x.play(0);
        x.seek(-1);
        x.restore();
        x.keep();
        x.type('s');
        x.fault();
        x.doAll();
        x.clearText();
        x.frame(0, 5);
        x.ifSought(1469, 0);
        x.bestGuess(1469);
        due("none of these", x.count(15), 0);
        x.press(0, 0, 1);
        due("press", x.count(15), 1);
        x.scratch(0, 0, 0, 0);
        due("scratch", x.count(15), 2);
        x.polish(0);
        due("polish", x.count(15), 3);
        x.set(5, 5);
        due("set", x.count(15), 4);
        x.undo();
        x.undo();
        x.undo();
        x.undo();
        due("undone", x.count(15), 0);
        x.play(1);
        x.seek(0);
        x.restore();
        due("play, seek, restore", x.count(15), 3);
        Due.typeAll(x, "seek=0");
        x.doAll();
        due("doAll", x.count(15), 4);
    }

    /** All that tells the state, but for the number of states and the text. */
    private static String picture(LineDisc x) {
        StringBuilder picture = new StringBuilder();
        for (int what = 0; what <= 22; what++) {
            picture.append(what == 15 || what == 16 ? 0 : x.count(what)).append(' ');
        }
        for (int scratch = 0; scratch < x.count(2); scratch++) {
            for (int what = 0; what <= 4; what++) {
                picture.append(x.scratchOf(scratch, what)).append(' ');
            }
        }
        for (int frame = 0; frame < 60; frame++) {
            for (int place = 0; place < 4; place++) {
                picture.append(x.symbol(frame, place, false)).append(x.symbol(frame, place, true)).append(' ');
            }
        }
        return picture.append(x.ifSought(1100, 0)).append(' ').append(x.right()).append(' ').append(x.gap(0)).toString();
    }

    private static int act(LineDisc x, int number) {
        switch (number) {
            case 0: return x.press(5, 1, 7);
            case 1: return x.scratch(18, 71, 0, 3);
            case 2: return x.set(2, 7);
            case 3: return x.play(45);
            case 4: return x.set(3, 4);
            case 5: return x.press(1, 3, 9);
            case 6: return x.seek(1200);
            case 7: return x.set(5, 17);
            case 8: return x.scratch(90, 95, 1, 29);
            case 9: return x.polish(0);
            case 10: return x.set(4, 61);
            case 11: return x.press(5, 1, 3);
            case 12: return x.restore();
            case 13: return x.set(1, 5);
            case 14: return x.set(0, 33);
            case 15: return x.press(1, 3, 12);
            default: return x.doAll();
        }
    }

    private static void promise12UndoOfEachAct() {
        DUE.part("promise 12, each act");
        for (int acts = 1; acts <= 17; acts++) {
            LineDisc x = new LineDisc();
            x.play(2);
            x.keep();
            Due.typeAll(x, "press=2.2:2;scratch=1-90@0-9;seek=5;play=3");
            String[] pictures = new String[acts + 1];
            pictures[0] = picture(x);
            for (int i = 0; i < acts; i++) {
                DUE.holds("act " + i + " is done", act(x, i) >= 0);
                pictures[i + 1] = picture(x);
                DUE.holds("act " + i + " changes the state", !pictures[i + 1].equals(pictures[i]));
            }
            for (int i = acts - 1; i >= 0 && i >= acts - 4; i--) {
                DUE.holds("act " + i + " of " + acts + " is undone", x.undo() >= 0 && picture(x).equals(pictures[i]));
            }
        }
    }

    /** The first question behind a change must not be answered by how the frames were before it. */
    private static void promise12DamageFollows() {
        DUE.part("promise 12, damage follows");
        LineDisc x = new LineDisc();
        x.scratch(0, 35, 0, 0);
        x.undo();
        DUE.dueDouble("right", x.right(), 1.0);
        x.scratch(0, 35, 0, 0);
        x.undo();
        due("gap", x.gap(0), NONE);
        x.scratch(0, 35, 0, 0);
        x.keep();
        x.polish(0);
        x.scratch(54, 107, 1, 2);
        x.restore();
        due("all other parts", x.frame(0, 5), 3);
        x.polish(0);
        x.scratch(18, 35, 0, 0);
        x.restore();
        due("only another angle to begin with", x.frame(0, 5), 3);
        x.set(0, 40);
        // 40 frames of 9 degrees
        due("more frames", x.count(13), 4);
        x.set(1, 0);
        due("fewer frames", x.gap(1), 4);
        x.undo();
        x.undo();
        due("as before", x.count(13), 2);
    }

    private static void promise13Keep() {
        DUE.part("promise 13");
        LineDisc x = new LineDisc();
        due("keep", x.keep(), 0);
        due("no act", x.count(15), 0);
        x.seek(7);
        due("keep", x.keep(), 7);
        x.seek(9);
        due("restore", x.restore(), 7);
        due("head", x.count(3), 7);
        x.undo();
        due("undo leaves the snapshot", x.count(3), 9);
        due("restore", x.restore(), 7);
        due("keep", x.keep(), 7);
        due("restore", x.restore(), 7);
    }

    private static void promise14Restore() {
        DUE.part("promise 14");
        LineDisc x = new LineDisc();
        due("none", x.restore(), NONE);
        due("nothing recorded", x.count(15), 0);
        x.scratch(0, 35, 0, 0);
        x.press(10, 1, 0);
        x.play(3);
        due("keep", x.keep(), 3);
        x.polish(0);
        x.press(10, 1, 9);
        x.set(0, 40);
        x.set(4, 100);
        Due.typeAll(x, "text");
        due("restore", x.restore(), 3);
        dueCounts(x, 0, 1470, 294, 1, 3, 0, 20, 3, 3, 1, 0);
        dueCounts(x, 13, 2, 1, 4, 4, 20, 2, 3, 1, 90, 4);
        due("symbol", x.symbol(10, 1, true), 0);
        due("frame", x.frame(0, 5), 3);
        due("an act", x.undo(), 3);
        dueCounts(x, 17, 40, 2, 3, 1, 100);
        due("symbol", x.symbol(10, 1, true), 9);
        due("whole", x.count(10), x.count(0));
        due("it stays", x.restore(), 3);
        due("once more", x.restore(), 3);
    }

    private static void dueFrame(LineDisc x, int frame, int... want) {
        for (int what = 0; what < want.length; what++) {
            due("frame(" + frame + ", " + what + ")", x.frame(frame, what), want[what]);
        }
    }

    private static void promise15Frame() {
        DUE.part("promise 15");
        LineDisc x = new LineDisc();
        due("-1", x.frame(-1, 9), UNKNOWN);
        due("1470", x.frame(1470, -1), UNKNOWN);
        due("extreme", x.frame(MIN, 0), UNKNOWN);
        due("extreme", x.frame(MAX, 0), UNKNOWN);
        due("-1", x.frame(0, -1), BAD_VALUE);
        due("9", x.frame(0, 9), BAD_VALUE);
        due("extreme", x.frame(0, MAX), BAD_VALUE);
        // 0, 3, 6, 9: runs 3 3, 3 6, 4 5, 5 4
        dueFrame(x, 0, 0, 0, 0, 0, 0, 0, 33, 97, 6);
        // 7, 10, 13, 0: runs 4 6, 5 5, 6 4, 3 3
        dueFrame(x, 19, 0, 19, 3, 1, 0, 0);
        dueFrame(x, 1, 0, 1, 0, 0, 0, 0, 36, 100, 6);
        dueFrame(x, 20, 1, 0, 4, 0, 0, 0);
        dueFrame(x, 41, 1, 21, 8, 0, 0, 0);
        dueFrame(x, 42, 2, 0, 8, 0, 0, 0);
        dueFrame(x, 1469, 29, 77, 293, 1, 0, 0);
        // the check of the group 0: the sums 42, 54, 66, 78 leave 10, 6, 2, 14: runs 5 5, 4 5, 3 5, 6 5
        dueSymbols(x, 4, 10, 6, 2, 14);
        dueFrame(x, 4, 0, 4, 0, 1, 0, 0, 38, 98, 6);
        x.press(0, 0, 12);
        // 12, 3, 6, 9: runs 6 3, 3 6, 4 5, 5 4
        dueFrame(x, 0, 0, 0, 0, 0, 0, 0, 36, 100, 6);
        // the check has 6, 6, 2, 14: runs 4 5, 4 5, 3 5, 6 5
        dueFrame(x, 4, 0, 4, 0, 1, 0, 0, 37, 97, 6);
        x.press(0, 0, 0);
        x.press(0, 1, 0);
        x.press(0, 2, 0);
        x.press(0, 3, 0);
        dueFrame(x, 0, 0, 0, 0, 0, 0, 0, 24, 100, 3);
        x.press(0, 0, 3);
        x.press(0, 1, 3);
        x.press(0, 2, 3);
        x.press(0, 3, 3);
        dueFrame(x, 0, 0, 0, 0, 0, 0, 0, 36, 88, 6);
        x.press(0, 0, 12);
        dueFrame(x, 0, 0, 0, 0, 0, 0, 0, 36, 94, 6);
        LineDisc y = new LineDisc();
        y.press(0, 1, 0);
        y.press(0, 2, 0);
        y.press(0, 3, 0);
        y.press(0, 0, 8);
        dueFrame(y, 0, 0, 0, 0, 0, 0, 0, 26, 102, 5);
        y.press(0, 0, 2);
        dueFrame(y, 0, 0, 0, 0, 0, 0, 0, 26, 98, 5);
        y.press(0, 3, 7);
        dueFrame(y, 0, 0, 0, 0, 0, 0, 0, 30, 96, 6);
    }

    private static void dueSymbols(LineDisc x, int frame, int... want) {
        for (int place = 0; place < want.length; place++) {
            due("symbol(" + frame + ", " + place + ")", x.symbol(frame, place, false), want[place]);
        }
    }

    private static void dueHow(LineDisc x, int first, int... want) {
        for (int i = 0; i < want.length; i++) {
            due("frame(" + (first + i) + ", 5)", x.frame(first + i, 5), want[i]);
            due("frame(" + (first + i) + ", 4)", x.frame(first + i, 4), want[i] == 0 ? 0 : 1);
        }
    }

    private static void promise15HowFramesAre() {
        DUE.part("promise 15, how");
        dueHow(Discs.scratched(0), 0, 1, 0, 0, 0, 0);
        dueHow(Discs.scratched(4), 0, 0, 0, 0, 0, 1);
        // nothing is ahead of the frame 0
        dueHow(Discs.scratched(0, 2), 0, 3, 0, 2, 0, 0);
        dueHow(Discs.scratched(1, 3), 0, 0, 2, 0, 2, 0, 0);
        dueHow(Discs.scratched(1, 2), 0, 0, 3, 3, 0, 0);
        // a check is never filled, and is passed over
        dueHow(Discs.scratched(3, 4), 0, 0, 0, 0, 2, 3, 0);
        dueHow(Discs.scratched(5, 9), 0, 0, 0, 0, 0, 0, 2, 0, 0, 0, 3);
        dueHow(Discs.scratched(4, 5, 9), 0, 0, 0, 0, 0, 1, 2, 0, 0, 0, 3);
        // a mended one can fill
        dueHow(Discs.scratched(3, 5, 7), 0, 0, 0, 0, 1, 0, 2, 0, 2, 0, 0);
        dueHow(Discs.scratched(1, 3, 5), 0, 0, 2, 0, 2, 0, 1, 0);
        dueHow(Discs.scratched(8, 10, 12), 7, 0, 1, 0, 2, 0, 2, 0);
        // a filled one cannot, nor a missing one
        dueHow(Discs.scratched(1, 3, 5, 7), 0, 0, 2, 0, 3, 0, 3, 0, 2, 0, 0);
        dueHow(Discs.scratched(0, 1, 2, 3, 4, 5), 0, 3, 3, 3, 3, 3, 1, 0);
        dueHow(Discs.scratched(1, 4), 0, 0, 2, 0, 0, 3);
        // two scratches over one frame damage it once
        dueHow(Discs.scratched(1, 1), 0, 0, 1, 0, 0, 0);
        LineDisc x = Discs.scratched(1, 3);
        x.polish(0);
        dueHow(x, 0, 0, 0, 0, 1, 0);
        x.undo();
        dueHow(x, 0, 0, 2, 0, 2, 0);
        // 78 frames in the last turn: 76 and 77 have no data frame behind them
        LineDisc y = new LineDisc();
        due("the last two", y.scratch(351, 359, 29, 29), 2);
        dueHow(y, 1466, 0, 0, 3, 3);
        y.polish(0);
        due("the last one", y.scratch(356, 359, 29, 29), 1);
        dueHow(y, 1466, 0, 0, 0, 1);
    }

    /** There are 30 * a + 435 * b frames, which 5 divides, so all of them have a group. */
    private static void promise15Ends() {
        DUE.part("promise 15, ends");
        for (int first = 8; first <= 40; first++) {
            LineDisc y = Discs.with(first, 1);
            due("frames", y.count(0), 30 * first + 435);
            due("groups", y.count(1), (30 * first + 435) / 5);
            due("last is a check", y.frame(y.count(0) - 1, 3), 1);
            due("its group", y.frame(y.count(0) - 1, 2), y.count(1) - 1);
            due("behind", y.frame(y.count(0), 2), UNKNOWN);
        }
    }

    private static void promise16Symbol() {
        DUE.part("promise 16");
        LineDisc x = Discs.scratched(1, 3, 4, 7);
        due("-1", x.symbol(-1, 4, true), UNKNOWN);
        due("1470", x.symbol(1470, -1, false), UNKNOWN);
        due("extreme", x.symbol(MAX, 0, false), UNKNOWN);
        due("place -1", x.symbol(0, -1, true), BAD_VALUE);
        due("place 4", x.symbol(0, 4, false), BAD_VALUE);
        due("extreme", x.symbol(0, MIN, false), BAD_VALUE);
        // the frames 0 and 2 have 0 3 6 9 and 14 1 4 7
        int[] filled = {7, 2, 5, 8};
        // the frames 2 and 5 have 14 1 4 7 and 3 6 9 12
        int[] passed = {8, 3, 6, 9};
        for (int place = 0; place < 4; place++) {
            due("whole", x.symbol(0, place, true), Discs.atFirst(0, place));
            due("filled", x.symbol(1, place, true), filled[place]);
            due("as it stands", x.symbol(1, place, false), Discs.atFirst(1, place));
            due("filled over a check", x.symbol(3, place, true), passed[place]);
            due("missing check", x.symbol(4, place, true), NONE);
            due("as it stands", x.symbol(4, place, false), new int[] {10, 6, 2, 14}[place]);
            due("mended", x.symbol(7, place, true), Discs.atFirst(7, place));
        }
        x.press(7, 2, 1);
        due("mended", x.symbol(7, 2, true), 1);
        x.press(0, 3, 15);
        due("filled, rounded down", x.symbol(1, 3, true), 11);
        x.press(2, 3, 14);
        due("filled, rounded down", x.symbol(1, 3, true), 14);
        due("damaged check by what stands", x.symbol(4, 3, false), (15 + 0 + 14 + 14) % 16);
        LineDisc y = Discs.scratched(9);
        due("mended check", y.symbol(9, 3, true), 10);
        y.press(5, 3, 13);
        due("mended check", y.symbol(9, 3, true), 11);
    }

    private static void promise17Turn() {
        DUE.part("promise 17");
        LineDisc x = Discs.scratched(1, 2);
        due("-1", x.turn(-1, 4), UNKNOWN);
        due("30", x.turn(30, -1), UNKNOWN);
        due("extreme", x.turn(MAX, 0), UNKNOWN);
        due("what -1", x.turn(0, -1), BAD_VALUE);
        due("what 4", x.turn(29, 4), BAD_VALUE);
        due("extreme", x.turn(29, MIN), BAD_VALUE);
        int first = 0;
        for (int turn = 0; turn < 30; turn++) {
            due("frames", x.turn(turn, 0), 20 + 2 * turn);
            due("first", x.turn(turn, 1), first);
            due("damaged", x.turn(turn, 2), turn == 0 ? 2 : 0);
            int length = 0;
            for (int frame = first; frame < first + 20 + 2 * turn; frame++) {
                length += x.frame(frame, 6);
            }
            due("length", x.turn(turn, 3), length);
            first += 20 + 2 * turn;
            if (turn == 10) {
                x = Discs.scratched(1, 2);
            }
        }
        LineDisc y = new LineDisc();
        int length = y.turn(0, 3);
        y.press(0, 0, 15);
        // 15 instead of 0 has six more; 9 instead of 10 in the check has one less in each run but one
        due("length", y.turn(0, 3), length + 6 + (5 + 4) - (5 + 5));
        y.scratch(0, 359, 3, 4);
        due("none", y.turn(2, 2), 0);
        due("all", y.turn(3, 2), 26);
        due("all", y.turn(4, 2), 28);
        due("none", y.turn(5, 2), 0);
    }

    private static void promise18ScratchOf() {
        DUE.part("promise 18");
        LineDisc x = new LineDisc();
        due("none", x.scratchOf(0, 0), UNKNOWN);
        x.scratch(18, 36, 2, 3);
        x.scratch(0, 359, 0, 29);
        x.scratch(17, 18, 0, 0);
        int[] first = {18, 36, 2, 3};
        for (int what = 0; what < 4; what++) {
            due("scratchOf", x.scratchOf(0, what), first[what]);
        }
        due("last", x.scratchOf(2, 0), 17);
        due("last", x.scratchOf(2, 1), 18);
        // 24 frames of 15 degrees: 1 and 2; 26 of 13.8: 1 and 2
        due("its frames", x.scratchOf(0, 4), 4);
        due("its frames", x.scratchOf(1, 4), 1470);
        due("its frames", x.scratchOf(2, 4), 2);
        due("-1", x.scratchOf(-1, 5), UNKNOWN);
        due("3", x.scratchOf(3, 0), UNKNOWN);
        due("extreme", x.scratchOf(MIN, 0), UNKNOWN);
        due("what -1", x.scratchOf(0, -1), BAD_VALUE);
        due("what 5", x.scratchOf(0, 5), BAD_VALUE);
        x.set(1, 0);
        due("other turns", x.scratchOf(0, 4), 4);
        due("other turns", x.scratchOf(1, 4), 600);
    }

    private static void promise19Count() {
        DUE.part("promise 19");
        LineDisc x = Discs.scratched(0, 2, 7);
        due("-1", x.count(-1), BAD_VALUE);
        due("23", x.count(23), BAD_VALUE);
        due("extreme", x.count(MIN), BAD_VALUE);
        due("extreme", x.count(MAX), BAD_VALUE);
        x.press(0, 0, 1);
        x.play(21);
        x.seek(1469);
        x.set(5, 7);
        Due.typeAll(x, "ab");
        int ticks = 21 + 29 + 6 + 5 + 77;
        dueCounts(x, 0, 1470, 294, 3, 1469, 29, 78, ticks, 21, 18, 3, 1467, 1, 1, 1, 1, 4, 2, 20, 2, 3, 1, 90, 7);
        x.play(1);
        dueCounts(x, 3, 1470, 29, 78, ticks + 1, 22, 19, 3);
    }

    private static void promise20Right() {
        DUE.part("promise 20");
        LineDisc x = Discs.scratched(1, 3);
        // 1176 data frames; the two filled ones are told wrong
        DUE.dueDouble("two wrong", x.right(), 1174.0 / 1176.0);
        x.press(1, 1, 2);
        x.press(1, 2, 5);
        DUE.dueDouble("one place is wrong still", x.right(), 1174.0 / 1176.0);
        x.press(1, 3, 8);
        DUE.dueDouble("one right", x.right(), 1175.0 / 1176.0);
        x.press(0, 0, 5);
        DUE.dueDouble("wrong again", x.right(), 1174.0 / 1176.0);
        x.polish(1);
        DUE.dueDouble("mended", x.right(), 1.0);
        DUE.dueDouble("missing check", Discs.scratched(3, 4).right(), 1175.0 / 1176.0);
        DUE.dueDouble("mended check", Discs.scratched(4).right(), 1.0);
        DUE.dueDouble("missing", Discs.scratched(0, 1, 2).right(), 1173.0 / 1176.0);
        LineDisc y = new LineDisc();
        y.scratch(0, 359, 0, 29);
        DUE.dueDouble("all missing", y.right(), 0.0);
        LineDisc z = Discs.with(8, 0);
        z.scratch(0, 359, 0, 0);
        // 0 to 7 are damaged; 4 is a check, and none of the others is mended or filled
        DUE.dueDouble("small disc", z.right(), 185.0 / 192.0);
    }

    private static void promise21IfSought() {
        DUE.part("promise 21");
        LineDisc x = new LineDisc();
        due("-1", x.ifSought(-1, 2), UNKNOWN);
        due("1470", x.ifSought(1470, 0), UNKNOWN);
        due("extreme", x.ifSought(MIN, 0), UNKNOWN);
        due("what -1", x.ifSought(0, -1), BAD_VALUE);
        due("what 2", x.ifSought(0, 2), BAD_VALUE);
        due("there", x.ifSought(0, 0), 0);
        due("there", x.ifSought(0, 1), 0);
        // turns 0 to 26, 28 and 29
        due("ticks", x.ifSought(1469, 0), 30 + 6 + 5 + 77);
        due("jumps", x.ifSought(1469, 1), 3);
        dueCounts(x, 3, 0, 0, 20, 0, 0, 0, 0);
        due("no act", x.count(15), 0);
        due("as told", x.seek(1469), 118);
        due("ticks from there", x.ifSought(1468, 0), 1 + 76);
        due("jumps from there", x.ifSought(1468, 1), 0);
        due("jumps back", x.ifSought(0, 1), 3);
        due("jumps so far", x.count(9), 3);
        due("ticks so far", x.count(6), 118);
    }

    private static void promise22BestGuess() {
        DUE.part("promise 22");
        LineDisc x = new LineDisc();
        due("-1", x.bestGuess(-1), UNKNOWN);
        due("1470", x.bestGuess(1470), UNKNOWN);
        due("extreme", x.bestGuess(MAX), UNKNOWN);
        due("all the same", x.bestGuess(19), 60);
        due("one turn", x.bestGuess(20), 60);
        // two turns: from 100 hundredths on it is one jump
        due("two turns", x.bestGuess(42), 100);
        // 29 turns: one jump needs 29 turns, which 100 hundredths are first to give
        due("all turns", x.bestGuess(1392), 100);
        due("setting stays", x.count(21), 90);
        dueCounts(x, 3, 0, 0, 20, 0, 0, 0, 0);
        due("no act", x.count(15), 0);
        LineDisc y = Discs.with(20, 2, 3, 1, 90, 0);
        // without ticks of a jump itself any guess that does not go too far takes 29
        due("jumps for nothing", y.bestGuess(1392), 60);
        due("set", y.set(4, 140), 90);
        due("guess of the setting is no matter", y.bestGuess(1392), 60);
        // turns of 8, 10, 12, 14 and 16: by 74 hundredths three jumps take 10 ticks; by 75 it is 3 turns,
        // then 1, in 5 and 3 ticks; by 100 one jump takes 6 ticks, and the motor 2 more
        LineDisc w = Discs.with(8, 2, 1, 0, 90, 2);
        due("of 75 to 140 the lowest", w.bestGuess(44), 75);
        LineDisc z = new LineDisc();
        z.seek(1469);
        due("back", z.bestGuess(1350), bestByTrying(z, 1350));
        due("back", z.bestGuess(0), bestByTrying(z, 0));
        due("back", z.bestGuess(700), bestByTrying(z, 700));
    }

    private static int bestByTrying(LineDisc x, int frame) {
        int best = 0;
        int fewest = MAX;
        for (int guess = 140; guess >= 60; guess--) {
            x.set(4, guess);
            if (x.ifSought(frame, 0) <= fewest) {
                best = guess;
                fewest = x.ifSought(frame, 0);
            }
        }
        return best;
    }

    private static void promise23PolishFirst() {
        DUE.part("promise 23");
        LineDisc x = new LineDisc();
        due("what -1", x.polishFirst(-1), BAD_VALUE);
        due("what 2", x.polishFirst(2), BAD_VALUE);
        due("none", x.polishFirst(0), NONE);
        due("none", x.polishFirst(1), NONE);
        x.scratch(0, 35, 0, 0);
        due("the only one", x.polishFirst(0), 0);
        due("the only one", x.polishFirst(1), 0);
        // 0 and 1 are missing by the first, 5 to 7 by the second, 10 and 11 by the third
        x.scratch(90, 143, 0, 0);
        x.scratch(180, 215, 0, 0);
        due("missing", x.count(13), 7);
        due("the second", x.polishFirst(0), 1);
        due("without it", x.polishFirst(1), 4);
        due("nothing changed", x.count(13), 7);
        due("nothing changed", x.count(2), 3);
        due("nothing changed", x.frame(6, 5), 3);
        due("polish", x.polish(1), 4);
        due("of the same the lowest", x.polishFirst(0), 0);
        due("missing", x.polishFirst(1), 2);
        LineDisc y = Discs.scratched(0, 0, 2, 2);
        due("covered twice", y.polishFirst(0), 0);
        due("covered twice", y.polishFirst(1), 1);
        LineDisc z = Discs.scratched(0, 0, 2, 3, 3);
        // without 2 the frame 3 is filled and 0 is missing; without a double nothing changes
        due("the third", z.polishFirst(0), 2);
        due("missing", z.polishFirst(1), 1);
        LineDisc eight = Discs.scratched(0, 1, 2, 3, 4, 5, 6, 7);
        due("of eight", eight.polishFirst(0), bestPolish(eight, 0));
        due("of eight", eight.polishFirst(1), bestPolish(eight, 1));
    }

    private static int bestPolish(LineDisc x, int what) {
        int best = 0;
        int fewest = MAX;
        for (int i = 0; i < x.count(2); i++) {
            x.polish(i);
            if (x.count(13) < fewest) {
                fewest = x.count(13);
                best = i;
            }
            x.undo();
        }
        return what == 0 ? best : fewest;
    }

    private static void promise24Gap() {
        DUE.part("promise 24");
        LineDisc x = new LineDisc();
        due("what -1", x.gap(-1), BAD_VALUE);
        due("what 2", x.gap(2), BAD_VALUE);
        due("none", x.gap(0), NONE);
        due("none", x.gap(1), NONE);
        x.scratch(18, 18, 0, 0);
        due("mended", x.gap(0), NONE);
        x.scratch(54, 54, 0, 0);
        due("filled", x.gap(1), NONE);
        // 11 to 13 are damaged, of them none can be filled
        x.scratch(198, 251, 0, 0);
        due("first", x.gap(0), 11);
        due("length", x.gap(1), 3);
        // three more, further out, and not longer
        x.scratch(90, 143, 0, 0);
        due("of several the first", x.gap(0), 5);
        due("length", x.gap(1), 3);
        x.scratch(0, 359, 29, 29);
        due("to the end", x.gap(0), 1392);
        due("length", x.gap(1), 78);
        LineDisc y = Discs.scratched(2, 3, 4, 5, 6);
        // 4 is a check and missing too; 7 is whole
        due("over a check", y.gap(0), 2);
        due("over a check", y.gap(1), 5);
        LineDisc z = Discs.scratched(0, 2);
        due("the frame 0", z.gap(0), 0);
        due("alone", z.gap(1), 1);
    }
}
