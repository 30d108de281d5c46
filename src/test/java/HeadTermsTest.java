/** The term THE HEAD of the document, and how long an object is used, sentence by sentence, each at its edges. */
public final class HeadTermsTest {
    private static final int UNKNOWN = -1;
    private static final int NONE = -5;

    private static final Due DUE = new Due();
    private static final Doc DOC = new Doc(DUE);

    public static void main(String[] args) {
        DOC.section("## What it is", "## The public face");
        callsOfAnObject();
        DOC.section("THE HEAD", "TEXTS");
        headAtFirst();
        speedAtFirst();
        speedComesNearer();
        speedInBothDirections();
        readsIfNear();
        staysOtherwise();
        readsNoMoreAtTheEnd();
        jumpsToAnotherTurnOnly();
        wayRoundedTowardsNull();
        byOneAtLeast();
        notBeyondTheDisc();
        ticksOfAJump();
        speedInAJump();
        firstFrameOfTheTurn();
        waits();
        waitsAtTheFrameToo();
        restOfTheTurn();
        onToTheFrame();
        endIsInTheLastTurn();
        DOC.end();
        DUE.close();
    }

    private static void due(String call, long got, long want) {
        DUE.due(call, got, want);
    }

    private static void callsOfAnObject() {
        DOC.says("An object is used for at most 512 calls after it has been made");
        LineDisc x = new LineDisc();
        for (int i = 0; i < 254; i++) {
            // from the frame 1 the rest of the turn has 19 frames
            due("there", x.seek(1), 1);
            due("and back", x.seek(0), 19);
        }
        due("the call 509", x.scratch(0, 359, 0, 29), 1470);
        due("the call 510", x.undo(), 3);
        due("the call 511", x.undo(), 2);
        due("the call 512", x.count(6), 20 * 254 - 19);
    }

    private static void headAtFirst() {
        DOC.says("The head is at a frame (0 at first).");
        LineDisc x = new LineDisc();
        due("frame", x.count(3), 0);
        due("turn", x.count(4), 0);
        due("the first that it reads", x.play(1), 1);
        due("frame", x.count(3), 1);
    }

    private static void speedAtFirst() {
        DOC.says("The motor turns so that a turn would have some number of frames (the speed; that of the turn 0 at first).");
        due("speed", new LineDisc().count(5), 20);
        LineDisc x = new LineDisc();
        x.set(3, 0);
        due("no tick is lost", x.play(1), 1);
        due("ticks", x.count(6), 1);
    }

    /** At the frame 20, the first of the turn 1, where the speed is 20 still. */
    private static LineDisc behindTheFirstTurn(int more, int motor, int off) {
        LineDisc x = Discs.with(20, more, motor, off);
        x.play(20);
        due("frame", x.count(3), 20);
        due("speed", x.count(5), 20);
        due("ticks", x.count(6), 20);
        return x;
    }

    private static void dueHead(LineDisc x, int frame, int speed, int ticks) {
        due("frame", x.count(3), frame);
        due("speed", x.count(5), speed);
        due("ticks", x.count(6), ticks);
    }

    private static void speedComesNearer() {
        DOC.says("In a tick the speed comes nearer to the number of frames of the turn in which the head is, "
            + "by the setting 2 at most.");
        LineDisc x = behindTheFirstTurn(5, 4, 5);
        x.play(1);
        dueHead(x, 21, 24, 21);
        x.play(1);
        dueHead(x, 22, 25, 22);
        LineDisc y = behindTheFirstTurn(5, 5, 5);
        y.play(1);
        dueHead(y, 21, 25, 21);
        LineDisc z = behindTheFirstTurn(5, 9, 5);
        z.play(2);
        dueHead(z, 22, 25, 22);
        LineDisc w = behindTheFirstTurn(0, 9, 0);
        w.play(1);
        dueHead(w, 21, 20, 21);
    }

    private static void speedInBothDirections() {
        DOC.says("In a tick the speed comes nearer to the number of frames of the turn in which the head is");
        LineDisc x = Discs.with(8, 6, 1, 0, 90, 0);
        // a jump of one tick, and five more ticks, either way
        due("out", x.seek(8), 6);
        due("speed", x.count(5), 14);
        due("in", x.seek(0), 6);
        due("speed", x.count(5), 8);
        // off by 5 is near enough: behind the jump the speed follows no more, until frames are read
        x.set(3, 5);
        due("out", x.seek(8), 1);
        due("speed", x.count(5), 9);
        due("in", x.seek(0), 1);
        due("speed", x.count(5), 8);
        due("out", x.seek(8), 1);
        x.play(5);
        due("speed", x.count(5), 14);
        due("in", x.seek(0), 1);
        due("speed", x.count(5), 13);
        x.play(4);
        due("speed", x.count(5), 9);
        x.play(3);
        due("speed", x.count(5), 8);
    }

    private static void readsIfNear() {
        DOC.says("Then, when the head reads, and the speed is off from that number by the setting 3 at most, a frame is read, "
            + "and the head is at the next one; otherwise the head stays.");
        // of 26 frames the speed is off by 5 behind the first tick
        LineDisc x = behindTheFirstTurn(6, 1, 5);
        due("off by 5 of 5", x.play(1), 1);
        dueHead(x, 21, 21, 21);
        LineDisc y = behindTheFirstTurn(6, 1, 4);
        due("off by 5 of 4", y.play(1), 1);
        dueHead(y, 21, 22, 22);
        LineDisc z = behindTheFirstTurn(6, 1, 0);
        due("off by 0", z.play(1), 1);
        dueHead(z, 21, 26, 26);
        LineDisc w = behindTheFirstTurn(6, 5, 0);
        due("off by 1 of 0, then by 0", w.play(1), 1);
        dueHead(w, 21, 26, 22);
        // a speed above the number is off as well
        LineDisc v = Discs.with(8, 6, 1, 5, 90, 0);
        v.seek(8);
        v.play(9);
        v.seek(0);
        v.set(3, 0);
        due("off by 5 above", v.count(5), 13);
        due("play", v.play(1), 1);
        dueHead(v, 1, 8, 1 + 9 + 1 + 5);
    }

    private static void staysOtherwise() {
        DOC.says("otherwise the head stays.");
        LineDisc x = behindTheFirstTurn(6, 2, 0);
        due("play 3", x.play(3), 3);
        // two ticks without a frame, then three with one each
        dueHead(x, 23, 26, 25);
        due("read", x.count(7), 23);
        LineDisc y = Discs.with(8, 6, 1, 0);
        due("play over many turns", y.play(999), 999);
        // five ticks more for each turn that was entered
        int turn = y.count(4);
        due("ticks", y.count(6), 999 + 5 * turn);
        due("speed", y.count(5), 8 + 6 * turn);
    }

    private static void readsNoMoreAtTheEnd() {
        DOC.says("Behind the last frame the head is at the end, and reads no more.");
        LineDisc x = Discs.with(8, 0);
        due("all but one", x.play(239), 239);
        due("not at the end", x.count(3), 239);
        due("the last one, of two", x.play(2), 1);
        dueHead(x, 240, 8, 240);
        due("at the end", x.play(1), NONE);
        dueHead(x, 240, 8, 240);
        due("read", x.count(7), 240);
        due("no frame is there", x.frame(240, 0), UNKNOWN);
        LineDisc y = Discs.with(8, 0);
        due("all at once", y.play(240), 240);
        due("at the end", y.play(999), NONE);
        LineDisc z = Discs.with(8, 0);
        due("more than there are", z.play(999), 240);
        dueHead(z, 240, 8, 240);
    }

    private static void jumpsToAnotherTurnOnly() {
        DOC.says("To seek a frame: as long as the head is in another turn than the frame, it jumps:");
        LineDisc x = new LineDisc();
        due("the same turn", x.ifSought(19, 1), 0);
        due("the next turn", x.ifSought(20, 1), 1);
        x.seek(41);
        due("one jump", x.count(9), 1);
        due("behind, in the same turn", x.ifSought(20, 1), 0);
        due("the turn ahead", x.ifSought(19, 1), 1);
        due("the next turn", x.ifSought(42, 1), 1);
        // 26 of 29 turns, 2 of 3, and the last one
        LineDisc y = new LineDisc();
        due("as often as it takes", y.ifSought(1469, 1), 3);
    }

    /** The turns that a seek of the first frame of another turn goes, told by its ticks: no ticks of jumps, no waiting. */
    private static LineDisc jumper(int guess) {
        return Discs.with(20, 0, 9, 5, guess, 0);
    }

    private static void wayRoundedTowardsNull() {
        DOC.says("d being the turn of the frame less that of the head, it jumps by d * (setting 4) / 100 turns, rounded towards 0,");
        // 3 turns: 1.8 are 1, then 1.2 are 1, then 1; rounded up it would be 2 and 1
        due("out, jumps", jumper(60).ifSought(60, 1), 3);
        LineDisc x = jumper(60);
        x.seek(60);
        // -1.8 are -1, and not -2
        due("in, jumps", x.ifSought(0, 1), 3);
        // 5 turns: 3 exactly, then 1.2 are 1, then 1
        due("exactly 3", jumper(60).ifSought(100, 1), 3);
        // 10 turns: 9.9 are 9, then 1
        due("9.9", jumper(99).ifSought(200, 1), 2);
        due("exactly 10", jumper(100).ifSought(200, 1), 1);
        due("exactly 10", jumper(100).ifSought(200, 0), 10);
        // 10 turns: 10.9 are 10
        due("10.9", jumper(109).ifSought(200, 1), 1);
        // 11 turns, and 1 back
        due("exactly 11", jumper(110).ifSought(200, 1), 2);
        due("exactly 11", jumper(110).ifSought(200, 0), 12);
        LineDisc y = jumper(109);
        y.seek(400);
        due("-10.9", y.ifSought(200, 0), 10);
        y.set(4, 110);
        due("exactly -11", y.ifSought(200, 0), 12);
        y.set(4, 99);
        due("-9.9", y.ifSought(200, 1), 2);
    }

    private static void byOneAtLeast() {
        DOC.says("but by one at least (in the direction of d),");
        due("0.6 out", jumper(60).ifSought(20, 1), 1);
        due("0.6 out", jumper(60).ifSought(20, 0), 1);
        due("0.99 out", jumper(99).ifSought(39, 0), 1 + 19);
        LineDisc x = jumper(60);
        x.seek(40);
        due("-0.6", x.ifSought(20, 1), 1);
        due("-0.6", x.ifSought(20, 0), 1);
        due("-1.2, then -0.6", x.ifSought(0, 1), 2);
        x.seek(20);
        due("frame", x.count(3), 20);
        due("1.4 are one as well", jumper(140).ifSought(20, 0), 1);
    }

    private static void notBeyondTheDisc() {
        DOC.says("and not beyond the turns 0 and 29;");
        // 29 turns are 40.6
        LineDisc x = jumper(140);
        due("out", x.ifSought(580, 1), 1);
        due("out", x.seek(580), 29);
        due("turn", x.count(4), 29);
        due("in", x.ifSought(0, 1), 1);
        due("in", x.seek(0), 29);
        due("frame", x.count(3), 0);
        // 28 turns are 39.2: to the turn 29, and one back
        due("out to the turn 28", x.ifSought(560, 1), 2);
        due("out to the turn 28", x.seek(560), 30);
        // -27 turns are -37.8: to the turn 0, and one out
        due("in to the turn 1", x.ifSought(20, 1), 2);
        due("in to the turn 1", x.seek(20), 29);
        // 21 turns are 29.4, which is beyond 29 from the turn 1, but 20 turns are 28
        due("just within, and then back by 11 and out by 4, 1 back", x.ifSought(420, 1), 4);
        due("ticks", x.ifSought(420, 0), 28 + 11 + 4 + 1);
    }

    private static void ticksOfAJump() {
        DOC.says("a jump takes the ticks of the setting 5 and one more for each turn that it goes,");
        int[] settings = {0, 1, 4, 20};
        for (int each : settings) {
            LineDisc x = Discs.with(20, 0, 9, 5, 100, each);
            due("one turn", x.ifSought(20, 0), each + 1);
            due("29 turns", x.ifSought(580, 0), each + 29);
            due("no jump", x.ifSought(0, 0), 0);
            x.set(4, 60);
            // 3 turns by three jumps
            due("three jumps", x.ifSought(60, 0), 3 * each + 3);
            x.set(4, 140);
            // 5 turns are 7, then 2 back
            due("too far, and back", x.ifSought(100, 0), 2 * each + 9);
            // 28 turns are cut to 29, and one back: the turns that it goes, not those of the guess
            due("cut at the edge", x.ifSought(560, 0), 2 * each + 30);
        }
    }

    private static void speedInAJump() {
        DOC.says("in which the speed changes as told, by the turn in which the head arrives;");
        LineDisc x = Discs.with(8, 6, 1, 0, 100, 3);
        // 5 turns, 8 ticks: from 8 to 16 of 38; then 22 ticks of waiting
        due("out", x.seek(100), 8 + 22);
        due("speed", x.count(5), 38);
        LineDisc y = Discs.with(8, 6, 9, 0, 100, 3);
        // 8 ticks by 9 are more than the 30
        due("out", y.seek(100), 8);
        due("speed", y.count(5), 38);
        due("in", y.seek(0), 8);
        due("speed", y.count(5), 8);
        // each tick of the jump counts: 4 ticks by 7 are 28 of 30
        LineDisc z = Discs.with(8, 6, 5, 2, 100, 0);
        due("5 ticks by 5 are 25 of 30", z.seek(100), 5 + 1);
        due("speed", z.count(5), 38);
        speedByTheTurnOfArrival();
    }

    /** 20 turns in are 28, then 11 out, 4 in and 1 out: the turns 1, 12, 8 and 9 with 14, 80, 56 and 62 frames. */
    private static void speedByTheTurnOfArrival() {
        LineDisc x = Discs.with(8, 6, 9, 0, 100, 20);
        x.seek(x.turn(29, 1));
        due("speed", x.count(5), 182);
        x.set(2, 3);
        x.set(4, 140);
        x.set(5, 0);
        int frame = x.turn(9, 1);
        due("jumps", x.ifSought(frame, 1), 4);
        // 182, then 28 ticks to 98, 11 to 80, 4 to 68, 1 to 65, and one of waiting
        due("ticks", x.ifSought(frame, 0), 28 + 11 + 4 + 1 + 1);
        x.set(3, 3);
        due("ticks without waiting", x.seek(frame), 28 + 11 + 4 + 1);
        due("speed", x.count(5), 65);
    }

    private static void firstFrameOfTheTurn() {
        DOC.says("the head is at the first frame of that turn then.");
        LineDisc x = Discs.with(20, 0, 9, 5, 100, 0);
        x.seek(19);
        due("the first frame", x.ifSought(20, 0), 1);
        due("the next one", x.ifSought(21, 0), 2);
        due("the last one", x.ifSought(39, 0), 20);
        x.seek(599);
        due("in, the first frame", x.ifSought(0, 0), 29);
        due("in, the last frame", x.ifSought(19, 0), 29 + 19);
        due("seek", x.seek(0), 29);
        due("frame", x.count(3), 0);
    }

    private static void waits() {
        DOC.says("When it is in the turn of the frame, it waits for ticks until the speed is off by the setting 3 at most.");
        // the jump of a tick brings the speed from 8 to 9 of 14
        for (int off = 0; off <= 5; off++) {
            LineDisc x = Discs.with(8, 6, 1, off, 90, 0);
            due("off by " + off, x.seek(8), 1 + 5 - off);
            due("speed", x.count(5), 14 - off);
        }
        // from above: the jump of a tick brings the speed from 14 to 13 of 8
        for (int off = 0; off <= 5; off++) {
            LineDisc x = Discs.with(8, 6, 1, 0, 90, 0);
            x.seek(8);
            x.set(3, off);
            due("off by " + off, x.seek(0), 1 + 5 - off);
            due("speed", x.count(5), 8 + off);
        }
        // by 4 in a tick: 12 of 14 behind the jump, then 14
        due("the last tick changes less", Discs.with(8, 6, 4, 1, 90, 0).seek(8), 2);
        due("off by 2 at once", Discs.with(8, 6, 4, 2, 90, 0).seek(8), 1);
    }

    private static void waitsAtTheFrameToo() {
        DOC.says("it waits for ticks until the speed is off by the setting 3 at most.");
        LineDisc x = Discs.with(8, 6, 1, 5, 90, 0);
        x.seek(8);
        due("speed", x.count(5), 9);
        due("at the frame, near enough", x.seek(8), 0);
        x.set(3, 2);
        due("at the frame, ticks of waiting", x.ifSought(8, 0), 3);
        due("ahead of it", x.ifSought(10, 0), 3 + 2);
        due("at the frame", x.seek(8), 3);
        due("speed", x.count(5), 12);
        due("frame", x.count(3), 8);
        due("at the frame again", x.seek(8), 0);
    }

    private static void restOfTheTurn() {
        DOC.says("Then, if it is at a frame behind the wanted one, the rest of the turn goes by, a tick for each frame from there "
            + "(this one, too) to the end of the turn (the speed stays), and it is at the first frame of the turn;");
        LineDisc x = new LineDisc();
        x.seek(19);
        due("at the wanted one", x.ifSought(19, 0), 0);
        due("one behind the wanted one", x.ifSought(18, 0), 1 + 18);
        due("from the last frame to the first", x.seek(0), 1);
        due("frame", x.count(3), 0);
        x.seek(1);
        due("from the second frame to the first", x.seek(0), 19);
        x.seek(1469);
        due("one behind, in the last turn", x.seek(1468), 1 + 76);
        due("frame", x.count(3), 1468);
        due("no jump for it", x.count(9), 3);
        // the speed is 9 of 14, and stays
        LineDisc y = Discs.with(8, 6, 1, 5, 90, 0);
        y.seek(9);
        due("rest", y.seek(8), 13);
        due("the speed stays", y.count(5), 9);
        due("nothing is read", y.count(7), 0);
    }

    private static void onToTheFrame() {
        DOC.says("then it goes on to the wanted frame, a tick for each frame (the speed stays).");
        LineDisc x = new LineDisc();
        due("no frame", x.seek(0), 0);
        due("one frame", x.seek(1), 1);
        due("to the last of the turn", x.seek(19), 18);
        due("nothing is read", x.count(7), 0);
        LineDisc y = Discs.with(8, 6, 1, 5, 90, 0);
        due("13 frames on", y.seek(21), 1 + 13);
        due("the speed stays", y.count(5), 9);
        due("frame", y.count(3), 21);
        due("round, and on", y.seek(20), 1 + 12);
        due("the speed stays", y.count(5), 9);
    }

    private static void endIsInTheLastTurn() {
        DOC.says("(The head at the end is in the last turn, behind its last frame.)");
        LineDisc x = new LineDisc();
        x.seek(1469);
        x.play(1);
        due("frame", x.count(3), 1470);
        due("turn", x.count(4), 29);
        due("no jump to the last turn", x.ifSought(1469, 1), 0);
        // no frame is left of the turn
        due("to the first frame of the turn", x.ifSought(1392, 0), 0);
        due("to the last frame of the turn", x.ifSought(1469, 0), 77);
        due("a jump to the turn ahead", x.ifSought(1391, 1), 1);
        due("the turn ahead", x.ifSought(1391, 0), 4 + 1 + 75);
        due("seek", x.seek(1469), 77);
        due("frame", x.count(3), 1469);
        due("play", x.play(5), 1);
        due("speed", x.count(5), 78);
    }
}
