/** The terms THE DISC, PITS and SCRATCHES of the document, sentence by sentence, each at its edges. */
public final class DiscTermsTest {
    private static final int UNKNOWN = -1;
    private static final int BAD_VALUE = -2;
    private static final int FULL = -3;
    private static final int NOT_POSSIBLE = -4;
    private static final int NONE = -5;

    private static final Due DUE = new Due();
    private static final Doc DOC = new Doc(DUE);

    public static void main(String[] args) {
        DOC.section("THE DISC", "PITS");
        thirtyTurns();
        settings();
        framesOfTheFirstTurn();
        framesMoreInEachTurn();
        framesAlongTheSpiral();
        framesHoldWhatTheyHeld();
        framesBehindTheDiscHoldToo();
        groupsOfFive();
        noGroupBehindTheLast();
        fourDataAndACheck();
        fourSymbols();
        dataAtFirst();
        checksAreSums();
        framesWithoutGroup();
        DOC.end();
        DOC.section("PITS", "SCRATCHES");
        twoRuns();
        eightRuns();
        lengthAndBalance();
        DOC.end();
        DOC.section("SCRATCHES", "THE HEAD");
        bothAngles();
        bothTurns();
        atMostEight();
        numberedAsTheyCame();
        thoseBehindMoveUp();
        exactAngles();
        exactAnglesOfAllTurns();
        turnAndAngle();
        degreesReach();
        whole();
        mended();
        mendedSymbols();
        filledNeedsBoth();
        filledByWholeOrMended();
        filledPassesOverChecks();
        filledSymbols();
        missing();
        DOC.end();
        DUE.close();
    }

    private static void due(String call, long got, long want) {
        DUE.due(call, got, want);
    }

    // ---- THE DISC

    private static void thirtyTurns() {
        DOC.says("The disc has 30 turns, 0 to 29 from inside.");
        LineDisc x = new LineDisc();
        due("the turn -1", x.turn(-1, 0), UNKNOWN);
        due("the turn 0", x.turn(0, 0), 20);
        due("the turn 29", x.turn(29, 0), 78);
        due("the turn 30", x.turn(30, 0), UNKNOWN);
        due("the last frame", x.frame(x.count(0) - 1, 0), 29);
        due("the end of the turn 29", x.turn(29, 1) + 78, x.count(0));
    }

    private static void settings() {
        DOC.says("The settings are (in parentheses: range; first value): 0 frames of the turn 0 (8 to 40; 20), "
            + "1 by how many frames each turn has more than the one before (0 to 6; 2), "
            + "2 by how many frames a turn the motor changes in a tick (1 to 9; 3), 3 by how many it may be off (0 to 5; 1), "
            + "4 the guess in hundredths (60 to 140; 90), 5 ticks of a jump (0 to 20; 4).");
        int[][] ranges = {{8, 40, 20}, {0, 6, 2}, {1, 9, 3}, {0, 5, 1}, {60, 140, 90}, {0, 20, 4}};
        for (int which = 0; which < 6; which++) {
            int lowest = ranges[which][0];
            int highest = ranges[which][1];
            int first = ranges[which][2];
            LineDisc x = new LineDisc();
            due("setting " + which + " at first", x.count(17 + which), first);
            due("setting " + which + " too low", x.set(which, lowest - 1), BAD_VALUE);
            due("setting " + which + " too high", x.set(which, highest + 1), BAD_VALUE);
            due("setting " + which + " refused twice", x.count(17 + which), first);
            due("setting " + which + " at its lowest", x.set(which, lowest), first);
            due("setting " + which + " at its lowest", x.count(17 + which), lowest);
            due("setting " + which + " at its highest", x.set(which, highest), lowest);
            due("setting " + which + " at its highest", x.count(17 + which), highest);
            for (int other = 0; other < 6; other++) {
                due("setting " + other + " beside " + which, x.count(17 + other), other == which ? highest : ranges[other][2]);
            }
        }
        due("setting -1", new LineDisc().set(-1, 5), BAD_VALUE);
        due("setting 6", new LineDisc().set(6, 5), BAD_VALUE);
    }

    private static void framesOfTheFirstTurn() {
        DOC.says("0 frames of the turn 0 (8 to 40; 20)");
        int[] frames = {8, 20, 40};
        for (int each : frames) {
            LineDisc x = Discs.with(each);
            due("frames of the turn 0", x.turn(0, 0), each);
            due("its last frame", x.frame(each - 1, 0), 0);
            due("the frame behind it", x.frame(each, 0), 1);
        }
    }

    private static void framesMoreInEachTurn() {
        DOC.says("1 by how many frames each turn has more than the one before (0 to 6; 2)");
        for (int more = 0; more <= 6; more++) {
            LineDisc x = Discs.with(8, more);
            for (int turn = 0; turn < 30; turn++) {
                due("frames of the turn " + turn, x.turn(turn, 0), 8 + more * turn);
            }
            due("frames in all", x.count(0), Discs.first(8, more, 30));
        }
    }

    private static void framesAlongTheSpiral() {
        DOC.says("Frames are numbered from 0 along the spiral, the first one at the beginning of the turn 0; "
            + "the index of a frame is its place in its turn, from 0.");
        int[][] spirals = {{8, 0}, {8, 6}, {20, 2}, {40, 0}, {40, 6}};
        for (int[] spiral : spirals) {
            LineDisc x = Discs.with(spiral);
            for (int turn = 0; turn < 30; turn++) {
                int first = Discs.first(spiral[0], spiral[1], turn);
                int frames = spiral[0] + spiral[1] * turn;
                due("first frame of " + turn, x.turn(turn, 1), first);
                due("turn of the first frame", x.frame(first, 0), turn);
                due("index of the first frame", x.frame(first, 1), 0);
                due("turn of the last frame", x.frame(first + frames - 1, 0), turn);
                due("index of the last frame", x.frame(first + frames - 1, 1), frames - 1);
            }
            int all = Discs.first(spiral[0], spiral[1], 30);
            due("frame -1", x.frame(-1, 0), UNKNOWN);
            due("frame behind the last", x.frame(all, 0), UNKNOWN);
        }
    }

    private static void framesHoldWhatTheyHeld() {
        DOC.says("If settings 0 or 1 are changed, turns have more or fewer frames, "
            + "but what the frames hold stays by their numbers (what was pressed into frames that are not on the disc then, too).");
        LineDisc x = new LineDisc();
        x.press(21, 2, 9);
        due("index", x.frame(21, 1), 1);
        x.set(0, 8);
        due("turn, with fewer frames", x.frame(21, 0), 2);
        due("symbol, with fewer frames", x.symbol(21, 2, false), 9);
        x.set(1, 6);
        due("turn, with more frames", x.frame(21, 0), 1);
        due("symbol, with more frames", x.symbol(21, 2, false), 9);
        due("the check of it", x.symbol(24, 2, false), (20 * 7 + 6 + 9 + 22 * 7 + 6 + 23 * 7 + 6) % 16);
        due("its place was not taken by another", x.symbol(29, 2, false), new LineDisc().symbol(29, 2, false));
    }

    private static void framesBehindTheDiscHoldToo() {
        DOC.says("(what was pressed into frames that are not on the disc then, too)");
        LineDisc x = new LineDisc();
        x.press(238, 0, 1);
        x.press(240, 0, 1);
        x.press(1468, 3, 1);
        x.set(1, 0);
        x.set(0, 8);
        due("frames", x.count(0), 240);
        due("the last data frame", x.symbol(238, 0, false), 1);
        due("the first frame behind the disc", x.symbol(240, 0, false), UNKNOWN);
        due("it can't be pressed", x.press(240, 0, 2), UNKNOWN);
        due("both behind it count", x.count(14), 3);
        x.set(0, 9);
        due("on the disc again", x.symbol(240, 0, true), 1);
        x.set(0, 40);
        x.set(1, 2);
        due("on the disc again", x.symbol(1468, 3, true), 1);
        due("the check of it", x.symbol(1469, 3, true), (7 * (1465 + 1466 + 1467) + 27 + 1) % 16);
    }

    private static void groupsOfFive() {
        DOC.says("Frames stand in groups of 5: the group g has the frames 5 * g to 5 * g + 4, if all of them are on the disc");
        LineDisc x = new LineDisc();
        for (int group = 0; group < 294; group += group == 1 ? 7 : group == 8 ? 284 : 1) {
            for (int frame = 5 * group; frame < 5 * group + 5; frame++) {
                due("group of " + frame, x.frame(frame, 2), group);
            }
        }
        due("groups", x.count(1), 294);
    }

    /** There are 30 * a + 435 * b frames, which 5 divides: the last group is always full. */
    private static void noGroupBehindTheLast() {
        DOC.says("(frames behind the last full group have no group).");
        for (int first = 8; first <= 40; first++) {
            for (int more = 0; more <= 6; more++) {
                LineDisc x = Discs.with(first, more);
                int frames = 30 * first + 435 * more;
                due("frames", x.count(0), frames);
                due("groups", x.count(1), frames / 5);
                due("group of the last frame", x.frame(frames - 1, 2), frames / 5 - 1);
                due("group of the first one of its group", x.frame(frames - 5, 2), frames / 5 - 1);
                due("no frame behind", x.frame(frames, 2), UNKNOWN);
            }
        }
    }

    private static void fourDataAndACheck() {
        DOC.says("The first four of a group are data, the fifth one is its check.");
        LineDisc x = new LineDisc();
        int[] firsts = {0, 5, 40, 1465};
        for (int first : firsts) {
            for (int i = 0; i < 5; i++) {
                due("check " + (first + i), x.frame(first + i, 3), i == 4 ? 1 : 0);
                due("press into " + (first + i), x.press(first + i, 0, 16), BAD_VALUE);
                due("press into " + (first + i), x.press(first + i, 0, Discs.atFirst(first + i, 0)), i == 4 ? NOT_POSSIBLE : NONE);
            }
        }
    }

    private static void fourSymbols() {
        DOC.says("Each frame has 4 symbols (0 to 15), at the places 0 to 3.");
        LineDisc x = new LineDisc();
        for (int place = 0; place < 4; place++) {
            due("15", x.press(2, place, 15), Discs.atFirst(2, place));
            due("0", x.press(2, place, 0), 15);
            due("16", x.press(2, place, 16), BAD_VALUE);
            due("-1", x.press(2, place, -1), BAD_VALUE);
        }
        due("place -1", x.press(2, -1, 3), BAD_VALUE);
        due("place 4", x.press(2, 4, 3), BAD_VALUE);
        for (int frame = 0; frame < 20; frame++) {
            for (int place = 0; place < 4; place++) {
                int symbol = x.symbol(frame, place, false);
                DUE.holds("a symbol of 0 to 15 at " + frame, symbol >= 0 && symbol <= 15);
            }
            due("place -1 of " + frame, x.symbol(frame, -1, false), BAD_VALUE);
            due("place 4 of " + frame, x.symbol(frame, 4, false), BAD_VALUE);
        }
    }

    private static void dataAtFirst() {
        DOC.says("The symbol at the place p of a data frame n is (7 * n + 3 * p) modulo 16 at first;");
        LineDisc x = Discs.with(40, 6);
        for (int frame = 0; frame < 3810; frame += frame == 18 ? 3787 : 1) {
            for (int place = 0; place < 4 && frame % 5 != 4; place++) {
                due("symbol " + frame + " " + place, x.symbol(frame, place, false), (7 * frame + 3 * place) % 16);
            }
        }
        due("79, one ahead of the wrap-around", x.symbol(10, 3, false), 15);
        due("16, the wrap-around itself", x.symbol(1, 3, false), 0);
    }

    private static void checksAreSums() {
        DOC.says("that of a check is the sum of those at the same place in the four data frames of its group, modulo 16.");
        int[][] sums = {{0, 0, 0, 0}, {15, 0, 0, 0}, {15, 1, 0, 0}, {15, 1, 0, 1}, {8, 8, 8, 7}, {8, 8, 8, 8}, {15, 15, 15, 15}};
        int[] checks = {0, 15, 0, 1, 15, 0, 12};
        for (int i = 0; i < sums.length; i++) {
            LineDisc x = new LineDisc();
            for (int frame = 0; frame < 4; frame++) {
                x.press(frame, 2, sums[i][frame]);
                due("what stands", x.symbol(frame, 2, false), sums[i][frame]);
            }
            due("check of the sums " + i, x.symbol(4, 2, false), checks[i]);
            due("check at another place", x.symbol(4, 3, false), 14);
            due("check of another group", x.symbol(9, 2, false), new LineDisc().symbol(9, 2, false));
        }
        LineDisc x = new LineDisc();
        for (int place = 0; place < 4; place++) {
            int sum = 0;
            for (int frame = 1465; frame < 1469; frame++) {
                sum += Discs.atFirst(frame, place);
            }
            due("the last check", x.symbol(1469, place, true), sum % 16);
        }
    }

    private static void framesWithoutGroup() {
        DOC.says("Frames without a group are data.");
        for (int first = 8; first <= 40; first++) {
            LineDisc x = Discs.with(first);
            int all = x.count(0);
            int checks = 0;
            for (int frame = all - 10; frame < all; frame++) {
                DUE.holds("no frame without a group at " + frame, x.frame(frame, 2) >= 0);
                checks += x.frame(frame, 3);
            }
            due("the last ten frames have two checks", checks, 2);
        }
    }

    // ---- PITS

    /** A disc whose frame 0 has these symbols. */
    private static LineDisc holding(int... symbols) {
        LineDisc x = new LineDisc();
        for (int place = 0; place < symbols.length; place++) {
            x.press(0, place, symbols[place]);
        }
        return x;
    }

    private static void twoRuns() {
        DOC.says("A symbol s stands on the disc as two runs, with the lengths 3 + s / 4 (rounded down) and 3 + s modulo 4.");
        int[] first = {3, 3, 3, 3, 4, 4, 4, 4, 5, 5, 5, 5, 6, 6, 6, 6};
        int[] second = {3, 4, 5, 6, 3, 4, 5, 6, 3, 4, 5, 6, 3, 4, 5, 6};
        for (int symbol = 0; symbol < 16; symbol++) {
            LineDisc x = holding(0, symbol, 0, 0);
            due("length with " + symbol, x.frame(0, 6), 18 + first[symbol] + second[symbol]);
            due("balance with " + symbol, x.frame(0, 7), 100 + first[symbol] - second[symbol]);
            due("longest run with " + symbol, x.frame(0, 8), Math.max(first[symbol], second[symbol]));
        }
    }

    private static void eightRuns() {
        DOC.says("A frame has eight runs, by places; the first one is a pit, the next one flat, and so on.");
        for (int place = 0; place < 4; place++) {
            int[] symbols = new int[4];
            symbols[place] = 12;
            due("a long pit at " + place, holding(symbols).frame(0, 7), 103);
            due("a long pit at " + place, holding(symbols).frame(0, 8), 6);
            symbols[place] = 3;
            due("a long flat run at " + place, holding(symbols).frame(0, 7), 97);
            due("a long flat run at " + place, holding(symbols).frame(0, 8), 6);
        }
    }

    private static void lengthAndBalance() {
        DOC.says("The length of a frame is the sum of its runs; its balance is the sum of its pits less that of what is flat.");
        int[] symbols = {0, 3, 12, 15, 5};
        int[] lengths = {24, 36, 36, 48, 32};
        int[] balances = {100, 88, 112, 100, 100};
        for (int i = 0; i < symbols.length; i++) {
            LineDisc x = holding(symbols[i], symbols[i], symbols[i], symbols[i]);
            due("length of four times " + symbols[i], x.frame(0, 6), lengths[i]);
            due("balance of four times " + symbols[i], x.frame(0, 7), balances[i]);
        }
        // the check: 14, 1, 4 and 7 and so on leave 10, 6, 2, 14: runs 5 5, 4 5, 3 5, 6 5
        due("length of a check", new LineDisc().frame(4, 6), 38);
        due("balance of a check", new LineDisc().frame(4, 7), 98);
    }

    // ---- SCRATCHES

    private static void dueDamaged(LineDisc x, int first, int... want) {
        for (int i = 0; i < want.length; i++) {
            due("damaged " + (first + i), x.frame(first + i, 4), want[i]);
        }
    }

    private static void bothAngles() {
        DOC.says("A scratch goes from an angle to another one (in degrees, 0 to 359, both with it) over some turns (both with it).");
        // 20 frames of 18 degrees
        LineDisc x = new LineDisc();
        due("from the first degree of 1 to its last", x.scratch(18, 35, 0, 0), 1);
        dueDamaged(x, 0, 0, 1, 0);
        LineDisc y = new LineDisc();
        due("from the last degree of 0 to the first of 2", y.scratch(17, 36, 0, 0), 3);
        dueDamaged(y, 0, 1, 1, 1, 0);
        due("all degrees", new LineDisc().scratch(0, 359, 0, 0), 20);
        due("all degrees of the largest disc", Discs.with(40, 6).scratch(0, 359, 0, 29), 3810);
        due("all degrees of the smallest disc", Discs.with(8, 0).scratch(0, 359, 0, 29), 240);
        due("from -1", y.scratch(-1, 9, 0, 0), BAD_VALUE);
        due("to 360", y.scratch(9, 360, 0, 0), BAD_VALUE);
        LineDisc ends = new LineDisc();
        due("degree 0", ends.scratch(0, 0, 0, 0), 1);
        due("degree 359", ends.scratch(359, 359, 0, 0), 2);
        dueDamaged(ends, 0, 1, 0);
        dueDamaged(ends, 18, 0, 1, 0);
    }

    private static void bothTurns() {
        DOC.says("over some turns (both with it).");
        LineDisc x = new LineDisc();
        due("three turns", x.scratch(0, 0, 5, 7), 3);
        for (int turn = 0; turn < 30; turn++) {
            due("damaged in " + turn, x.turn(turn, 2), turn >= 5 && turn <= 7 ? 1 : 0);
        }
        due("the turn 0 alone", new LineDisc().scratch(0, 0, 0, 0), 1);
        LineDisc y = new LineDisc();
        due("the turn 29 alone", y.scratch(0, 0, 29, 29), 1);
        dueDamaged(y, y.turn(29, 1) - 1, 0, 1, 0);
        due("the turn -1", y.scratch(0, 0, -1, 3), BAD_VALUE);
        due("the turn 30", y.scratch(0, 0, 3, 30), BAD_VALUE);
    }

    private static void atMostEight() {
        DOC.says("There are at most 8,");
        LineDisc x = new LineDisc();
        for (int i = 0; i < 8; i++) {
            due("scratch " + i, x.scratch(18 * i, 18 * i, 0, 0), i + 1);
        }
        due("the ninth", x.scratch(350, 350, 0, 0), FULL);
        due("scratches", x.count(2), 8);
        due("not damaged by it", x.frame(19, 4), 0);
        due("polish", x.polish(3), 7);
        due("room again", x.scratch(350, 350, 0, 0), 8);
        due("the ninth", x.scratch(351, 351, 0, 0), FULL);
    }

    private static void numberedAsTheyCame() {
        DOC.says("numbered from 0 in the order in which they came;");
        LineDisc x = new LineDisc();
        for (int i = 0; i < 8; i++) {
            x.scratch(300 - i, 359 - i, 8 - i, 29 - i);
        }
        for (int i = 0; i < 8; i++) {
            due("from of " + i, x.scratchOf(i, 0), 300 - i);
            due("to of " + i, x.scratchOf(i, 1), 359 - i);
            due("inner of " + i, x.scratchOf(i, 2), 8 - i);
            due("outer of " + i, x.scratchOf(i, 3), 29 - i);
        }
        due("-1", x.scratchOf(-1, 0), UNKNOWN);
        due("8", x.scratchOf(8, 0), UNKNOWN);
    }

    private static void thoseBehindMoveUp() {
        DOC.says("when one is polished away, those behind it move up.");
        for (int gone = 0; gone < 8; gone++) {
            LineDisc x = new LineDisc();
            for (int i = 0; i < 8; i++) {
                x.scratch(18 * i, 18 * i + i, 0, i);
            }
            x.polish(gone);
            for (int i = 0; i < 7; i++) {
                int was = i < gone ? i : i + 1;
                due("from of " + i + " without " + gone, x.scratchOf(i, 0), 18 * was);
                due("to of " + i + " without " + gone, x.scratchOf(i, 1), 19 * was);
                due("outer of " + i + " without " + gone, x.scratchOf(i, 3), was);
            }
            due("7 without " + gone, x.scratchOf(7, 0), UNKNOWN);
            due("its frame", x.frame(gone, 4), 0);
        }
    }

    private static void exactAngles() {
        DOC.says("A frame with the index i in a turn of f frames is from the angle 360 * i / f up to, but not with, "
            + "360 * (i + 1) / f (exactly, not rounded);");
        // 9 frames of exactly 40 degrees
        due("39 of 9", Discs.with(9).scratch(39, 39, 0, 0), 1);
        due("40 of 9", Discs.with(9).scratch(40, 40, 0, 0), 1);
        due("39 and 40 of 9", Discs.with(9).scratch(39, 40, 0, 0), 2);
        // 11 frames: the frame 1 begins at 32 and 8/11, the frame 10 at 327 and 3/11
        due("32 of 11", Discs.with(11).scratch(32, 32, 0, 0), 2);
        due("33 of 11", Discs.with(11).scratch(33, 33, 0, 0), 1);
        due("31 of 11", Discs.with(11).scratch(31, 31, 0, 0), 1);
        due("327 of 11", Discs.with(11).scratch(327, 327, 0, 0), 2);
        due("328 to 359 of 11", Discs.with(11).scratch(328, 359, 0, 0), 1);
        // 39 frames: the frame 1 begins at 9 and 9/39, the frame 13 at exactly 120, the frame 38 at 350 and 30/39
        due("9 of 39", Discs.with(39).scratch(9, 9, 0, 0), 2);
        due("119 of 39", Discs.with(39).scratch(119, 119, 0, 0), 1);
        due("120 of 39", Discs.with(39).scratch(120, 120, 0, 0), 1);
        due("350 of 39", Discs.with(39).scratch(350, 350, 0, 0), 2);
        // 180 frames of 2 degrees, and 214 of 1 and 146/214 degrees
        due("1 of 180", Discs.with(36, 6).scratch(1, 1, 24, 24), 1);
        due("1 and 2 of 180", Discs.with(36, 6).scratch(1, 2, 24, 24), 2);
        due("1 of 214", Discs.with(40, 6).scratch(1, 1, 29, 29), 2);
        due("2 and 3 of 214", Discs.with(40, 6).scratch(2, 3, 29, 29), 2);
        due("3 of 214", Discs.with(40, 6).scratch(3, 3, 29, 29), 2);
    }

    /** By whole numbers: a frame and a degree, both times f, have an angle in common. */
    private static int meeting(int from, int to, int frames) {
        int meeting = 0;
        for (int index = 0; index < frames; index++) {
            meeting += 360 * index < (to + 1) * frames && from * frames < 360 * (index + 1) ? 1 : 0;
        }
        return meeting;
    }

    private static void exactAnglesOfAllTurns() {
        DOC.says("(exactly, not rounded);");
        for (int first = 8; first <= 40; first++) {
            int more = first % 7;
            for (int turn = 0; turn < 30; turn += 1 + first % 3) {
                LineDisc x = Discs.with(first, more);
                int frames = first + more * turn;
                int from = (first * 37 + turn * 11) % 360;
                int to = from + (359 - from) * (turn % 4) / 7;
                due("from " + from + " to " + to + " of " + frames, x.scratch(from, to, turn, turn), meeting(from, to, frames));
                for (int i = 1; i < 8; i++) {
                    int degree = (from + 45 * i) % 360;
                    x.polish(0);
                    due(degree + " of " + frames, x.scratch(degree, degree, turn, turn), meeting(degree, degree, frames));
                }
            }
        }
    }

    private static void turnAndAngle() {
        DOC.says("it is damaged if a scratch that is over its turn and it have an angle in common");
        LineDisc x = new LineDisc();
        due("no scratch", x.frame(0, 4), 0);
        x.scratch(0, 17, 1, 1);
        due("its angle, but not its turn", x.frame(0, 4), 0);
        x.scratch(18, 359, 0, 0);
        due("its turn, but not its angle", x.frame(0, 4), 0);
        due("both", x.frame(1, 4), 1);
        due("both", x.frame(20, 4), 1);
        x.scratch(17, 17, 0, 0);
        due("a third one", x.frame(0, 4), 1);
        due("damaged once", x.turn(0, 2), 20);
        damageFollows();
    }

    /** Scratches of one number that are others in one part, and turns of other lengths: what is asked first is right. */
    private static void damageFollows() {
        int[][] others = {{33, 35, 1, 2}, {18, 50, 1, 2}, {18, 35, 0, 2}, {18, 35, 1, 3}, {90, 143, 0, 3}};
        for (int many = 1; many <= 8; many++) {
            for (int[] other : others) {
                LineDisc x = new LineDisc();
                for (int i = 1; i < many; i++) {
                    x.scratch(300 + i, 300 + i, 20 + i, 20 + i);
                }
                int ahead = x.count(0) - x.count(10);
                // 22 frames of 16 and 4/11 degrees: 1 and 2; 24 of 15 degrees: 1 and 2
                due("with the one", x.scratch(18, 35, 1, 2), ahead + 4);
                x.keep();
                x.polish(many - 1);
                int with = x.scratch(other[0], other[1], other[2], other[3]);
                x.restore();
                DUE.holds("the other one damages others", with != ahead + 4);
                due("with the one again", x.count(0) - x.count(10), ahead + 4);
                x.undo();
                due("with the other one again", x.count(0) - x.count(10), with);
            }
        }
        LineDisc y = new LineDisc();
        due("20 and 22 frames", y.scratch(0, 359, 0, 1), 42);
        y.set(1, 6);
        due("20 and 26 frames", y.count(0) - y.count(10), 46);
        y.set(0, 9);
        due("9 and 15 frames", y.count(0) - y.count(10), 24);
        y.undo();
        due("20 and 26 frames", y.count(0) - y.count(10), 46);
        y.undo();
        due("20 and 22 frames", y.count(0) - y.count(10), 42);
    }

    private static void degreesReach() {
        DOC.says("(a degree a of a scratch reaching from a up to, but not with, a + 1).");
        // of 20 frames the frame 1 begins at exactly 18; of 19 within the degree 18
        LineDisc x = new LineDisc();
        x.scratch(17, 17, 0, 0);
        dueDamaged(x, 0, 1, 0);
        LineDisc y = Discs.with(19);
        y.scratch(18, 18, 0, 0);
        dueDamaged(y, 0, 1, 1, 0);
        // the last degree reaches to the end of the turn, and not into the next one
        LineDisc z = new LineDisc();
        z.scratch(359, 359, 0, 29);
        dueDamaged(z, 18, 0, 1, 0);
        due("one in each turn", z.count(0) - z.count(10), 30);
    }

    private static void dueHow(LineDisc x, int first, int... want) {
        for (int i = 0; i < want.length; i++) {
            due("how is " + (first + i), x.frame(first + i, 5), want[i]);
        }
    }

    private static void whole() {
        DOC.says("A frame that is not damaged is whole (0).");
        dueHow(new LineDisc(), 0, 0, 0, 0, 0, 0);
        // beside damaged ones, and a check whose data are all damaged
        dueHow(Discs.scratched(0, 1, 2, 3), 3, 3, 0, 0);
        dueHow(Discs.scratched(0, 1, 3, 4), 2, 0);
    }

    private static void mended() {
        DOC.says("A damaged one that has a group in which no other frame is damaged is mended (1):");
        for (int index = 0; index < 5; index++) {
            due("alone in the group 0: " + index, Discs.scratched(index).frame(index, 5), 1);
            due("alone in the group 3: " + index, Discs.scratched(15 + index).frame(15 + index, 5), 1);
            int other = (index + 1) % 5;
            DUE.holds("not with " + other + ": " + index, Discs.scratched(index, other).frame(index, 5) > 1);
            // the groups beside it are no matter
            due("alone in the group 1: " + index, Discs.scratched(4, 5 + index, 10).frame(5 + index, 5), 1);
        }
        // the group 8 has the frames 40 and 41 in the turn 1, and 42 to 44 in the turn 2
        LineDisc x = new LineDisc();
        x.scratch(359, 359, 1, 1);
        dueHow(x, 40, 0, 1, 0, 0, 0);
        x.scratch(0, 0, 2, 2);
        dueHow(x, 40, 0, 3, 3, 0, 0);
        // the last group
        LineDisc y = new LineDisc();
        y.scratch(359, 359, 29, 29);
        dueHow(y, 1465, 0, 0, 0, 0, 1);
        // two scratches over one frame damage one frame
        dueHow(Discs.scratched(2, 2), 0, 0, 0, 1, 0, 0);
    }

    private static void mendedSymbols() {
        DOC.says("its symbols are those that its check demands.");
        LineDisc x = Discs.scratched(2, 9);
        int[] second = {14, 1, 4, 7};
        int[] check = {13, 9, 5, 1};
        for (int place = 0; place < 4; place++) {
            int sum = 0;
            for (int frame = 5; frame < 9; frame++) {
                sum += Discs.atFirst(frame, place);
            }
            check[place] = sum % 16;
            due("a data frame", x.symbol(2, place, true), second[place]);
            due("a check", x.symbol(9, place, true), check[place]);
        }
        x.press(2, 1, 15);
        due("the pressed one", x.symbol(2, 1, true), 15);
        x.press(0, 1, 11);
        due("beside a pressed one", x.symbol(2, 1, true), 15);
        x.press(8, 0, (Discs.atFirst(8, 0) + 3) % 16);
        due("the check follows", x.symbol(9, 0, true), (check[0] + 3) % 16);
    }

    private static void filledNeedsBoth() {
        DOC.says("Another damaged data frame is filled (2) if the frames ahead of it and behind it by their numbers that are data "
            + "(checks passed over) are there, and are whole or mended:");
        // nothing is ahead of the frame 0
        dueHow(Discs.scratched(0, 2), 0, 3, 0, 2, 0, 0);
        // nothing but a check is behind the frame 1468
        LineDisc x = new LineDisc();
        x.scratch(351, 354, 29, 29);
        dueHow(x, 1466, 0, 0, 1, 0);
        x.scratch(356, 359, 29, 29);
        dueHow(x, 1466, 0, 0, 3, 3);
        LineDisc y = new LineDisc();
        y.scratch(351, 354, 29, 29);
        y.scratch(342, 345, 29, 29);
        dueHow(y, 1465, 0, 2, 0, 3, 0);
        // the end is by the spiral as it is
        LineDisc z = Discs.with(8, 0);
        z.scratch(270, 270, 29, 29);
        z.scratch(180, 180, 29, 29);
        dueHow(z, 235, 0, 2, 0, 3, 0);
        z.set(0, 9);
        due("no longer the last", z.frame(238, 4), 0);
    }

    private static void filledByWholeOrMended() {
        DOC.says("and are whole or mended:");
        dueHow(Discs.scratched(1, 3), 0, 0, 2, 0, 2, 0);
        // ahead of 5 is 3, which is mended; behind 3 is 5
        dueHow(Discs.scratched(3, 5, 7), 2, 0, 1, 0, 2, 0, 2);
        dueHow(Discs.scratched(1, 3, 5), 0, 0, 2, 0, 2, 0, 1, 0);
        // 3 and 5 can't fill each other
        dueHow(Discs.scratched(1, 3, 5, 7), 0, 0, 2, 0, 3, 0, 3, 0, 2, 0);
        // a missing one on either side, the other side whole
        dueHow(Discs.scratched(1, 2), 0, 0, 3, 3, 0, 0);
        dueHow(Discs.scratched(1, 2, 3), 0, 0, 3, 3, 3, 0, 0);
        dueHow(Discs.scratched(0, 3, 5, 6), 2, 0, 3, 0, 3, 3, 0);
    }

    private static void filledPassesOverChecks() {
        DOC.says("(checks passed over)");
        dueHow(Discs.scratched(3, 4), 2, 0, 2, 3, 0);
        dueHow(Discs.scratched(3, 4, 5), 2, 0, 2, 3, 1, 0);
        dueHow(Discs.scratched(4, 5, 6), 3, 0, 1, 3, 3, 0);
        dueHow(Discs.scratched(5, 9), 3, 0, 0, 2, 0, 0, 0, 3, 0);
        // a whole check between does not help: 3 and 5 are both needed
        dueHow(Discs.scratched(2, 3), 1, 0, 3, 3, 0, 0);
        LineDisc x = Discs.scratched(3, 1);
        // the mean of the frames 2 and 5, not of 2 and the check 4
        due("over the check, behind", x.symbol(3, 0, true), (14 + 3) / 2);
        LineDisc y = Discs.scratched(5, 7);
        due("over the check, ahead", y.symbol(5, 0, true), (5 + 10) / 2);
    }

    private static void filledSymbols() {
        DOC.says("each symbol is the mean of theirs at the same place, rounded down.");
        int[][] pairs = {{0, 0}, {0, 1}, {1, 0}, {1, 1}, {0, 15}, {15, 0}, {14, 15}, {15, 15}, {7, 8}, {3, 5}};
        int[] means = {0, 0, 0, 1, 7, 7, 14, 15, 7, 4};
        for (int i = 0; i < pairs.length; i++) {
            LineDisc x = Discs.scratched(1, 3);
            x.press(0, 2, pairs[i][0]);
            x.press(2, 2, pairs[i][1]);
            due("mean " + i, x.symbol(1, 2, true), means[i]);
            due("as it stands " + i, x.symbol(1, 2, false), Discs.atFirst(1, 2));
            due("another place " + i, x.symbol(1, 3, true), (9 + 7) / 2);
        }
        // the mended frame 3 gives what its check demands
        LineDisc y = Discs.scratched(3, 5, 7);
        y.press(3, 0, 15);
        due("by a mended one", y.symbol(5, 0, true), (15 + 10) / 2);
    }

    private static void missing() {
        DOC.says("All others are missing (3).");
        dueHow(Discs.scratched(0, 4), 0, 3, 0, 0, 0, 3);
        dueHow(Discs.scratched(3, 4), 3, 2, 3);
        dueHow(Discs.scratched(0, 1, 2, 3, 4), 0, 3, 3, 3, 3, 3);
        dueHow(Discs.scratched(9, 8, 7), 7, 3, 3, 3);
        LineDisc x = new LineDisc();
        x.scratch(0, 359, 0, 29);
        due("all frames", x.count(13), 1470);
        due("not told", x.symbol(0, 0, true), NONE);
    }
}
