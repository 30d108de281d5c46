/** Long runs of calls, the same each time, on LineDisc and on the plain one: all answers must be alike. */
public final class RunsTest {
    private static final int RUNS = 160;
    private static final int CALLS = 512;
    private static final String[] WORDS = {"scratch", "polish", "seek", "play", "press"};

    private final Due due = new Due();
    private LineDisc x;
    private PlainDisc plain;
    private long seed;
    private int calls;
    private int kind;

    public static void main(String[] args) {
        RunsTest test = new RunsTest();
        for (int run = 0; run < RUNS; run++) {
            test.run(run);
        }
        test.due.close();
    }

    private void run(int number) {
        due.part("run " + number);
        x = new LineDisc();
        plain = new PlainDisc();
        seed = 77L + 1000003L * number;
        kind = number % 8;
        calls = 0;
        while (calls < CALLS) {
            call();
        }
    }

    private int upTo(int most) {
        seed = seed * 6364136223846793005L + 1442695040888963407L;
        return (int) ((seed >>> 33) % (most + 1));
    }

    /** Mostly within its range, at times just outside or far from it. */
    private int within(int low, int high) {
        switch (upTo(40)) {
            case 0: return low - 1;
            case 1: return high + 1;
            case 2: return upTo(1) == 0 ? Integer.MIN_VALUE : Integer.MAX_VALUE;
            case 3: return low;
            case 4: return high;
            default: return low + upTo(high - low);
        }
    }

    private int someFrame() {
        switch (upTo(9)) {
            case 0: return within(0, 3810);
            case 1: return x.count(0) - 1 - upTo(6);
            case 2: return x.count(0) - 1 + upTo(3);
            case 3: return upTo(12);
            case 4: return x.turn(upTo(29), 1) + upTo(2) - 1;
            default: return within(0, x.count(0) - 1);
        }
    }

    private void same(String call, long got, long want) {
        due.due("call " + calls + ": " + call, got, want);
        calls++;
    }

    private void call() {
        int dice = upTo(kind == 1 ? 22 : 99);
        if (dice < 10) {
            press();
        } else if (dice < 18) {
            scratch();
        } else if (dice < 20) {
            int scratch = within(0, 7);
            same("polish " + scratch, x.polish(scratch), plain.polish(scratch));
        } else if (dice < 25) {
            set();
        } else if (dice < 30) {
            int frames = upTo(3) == 0 ? within(1, 999) : within(1, 60);
            same("play " + frames, x.play(frames), plain.play(frames));
        } else if (dice < 36) {
            int frame = someFrame();
            same("seek " + frame, x.seek(frame), plain.seek(frame));
        } else if (dice < 40) {
            orders();
        } else if (dice < 46) {
            past(dice);
        } else {
            ask(dice);
        }
    }

    private void press() {
        int frame = kind < 3 ? upTo(14) : someFrame();
        int place = within(0, 3);
        int symbol = within(0, 15);
        if (upTo(3) == 0) {
            symbol = Math.floorMod(7 * frame + 3 * place, 16);
        }
        same("press " + frame + " " + place + " " + symbol, x.press(frame, place, symbol), plain.press(frame, place, symbol));
        same("symbols", x.count(14), plain.count(14));
    }

    private void scratch() {
        int from = within(0, 359);
        int to = upTo(2) == 0 ? within(0, 359) : from < 360 ? from + upTo(kind % 4 == 0 ? 3 : 40) : from;
        int inner = within(0, 29);
        int outer = upTo(2) == 0 ? within(0, 29) : inner < 30 ? inner + upTo(4) : inner;
        same("scratch " + from + " " + to + " " + inner + " " + outer,
            x.scratch(from, to, inner, outer), plain.scratch(from, to, inner, outer));
    }

    private void set() {
        int which = kind == 2 ? within(2, 5) : within(0, 5);
        int[] lowest = {8, 0, 1, 0, 60, 0};
        int[] highest = {40, 6, 9, 5, 140, 20};
        int value = which >= 0 && which < 6 ? within(lowest[which], highest[which]) : upTo(9);
        same("set " + which + " " + value, x.set(which, value), plain.set(which, value));
        same("speed", x.count(5), plain.count(5));
    }

    private void past(int dice) {
        if (dice < 43) {
            same("undo", x.undo(), plain.undo());
        } else if (dice < 44) {
            same("keep", x.keep(), plain.keep());
        } else {
            same("restore", x.restore(), plain.restore());
        }
        same("ticks", x.count(6), plain.count(6));
    }

    private String number(int high) {
        return upTo(30) == 0 ? "0" + upTo(high) : upTo(30) == 0 ? Integer.toString(high + 1 + upTo(3)) : Integer.toString(upTo(high));
    }

    private String order() {
        String word = WORDS[upTo(4)];
        switch (word) {
            case "scratch":
                int from = upTo(300);
                int inner = upTo(20);
                return "scratch=" + (upTo(9) == 0 ? number(359) : from) + "-" + (upTo(9) == 0 ? number(359) : from + upTo(50))
                    + "@" + (upTo(9) == 0 ? number(29) : inner) + "-" + (upTo(9) == 0 ? number(29) : inner + upTo(9));
            case "polish": return "polish=" + (upTo(9) == 0 ? number(9) : upTo(1));
            case "seek": return "seek=" + (upTo(9) == 0 ? number(9999) : upTo(x.count(0) - 1));
            case "play": return "play=" + (upTo(2) == 0 ? number(999) : upTo(20) + 1);
            default:
                int frame = upTo(9) == 0 ? upTo(9999) : Discs.dataFrame(upTo(190));
                return "press=" + frame + "." + number(3) + ":" + number(15);
        }
    }

    private void orders() {
        StringBuilder text = new StringBuilder();
        int many = 1 + upTo(3);
        for (int i = 0; i < many; i++) {
            text.append(i == 0 ? "" : ";").append(order());
        }
        if (upTo(3) == 0) {
            int place = upTo(text.length() - 1);
            String signs = "0123456789=;-@.:sepyx \u00e9";
            text.setCharAt(place, signs.charAt(upTo(signs.length() - 1)));
        }
        if (upTo(9) == 0) {
            text.setLength(upTo(text.length()));
        }
        if (upTo(9) != 0) {
            same("clearText", x.clearText(), plain.clearText());
        }
        for (int i = 0; i < text.length(); i++) {
            same("type", x.type(text.charAt(i)), plain.type(text.charAt(i)));
        }
        same("fault of " + text, x.fault(), plain.fault());
        same("doAll of " + text, x.doAll(), plain.doAll());
        for (int what = 0; what <= 16; what++) {
            same("count " + what + " behind " + text, x.count(what), plain.count(what));
        }
    }

    private void ask(int dice) {
        int frame = someFrame();
        int what = within(0, 1);
        if (dice < 56) {
            int which = within(0, 8);
            same("frame " + frame + " " + which, x.frame(frame, which), plain.frame(frame, which));
        } else if (dice < 64) {
            int place = within(0, 3);
            boolean told = upTo(3) > 0;
            same("symbol " + frame + " " + place + " " + told, x.symbol(frame, place, told), plain.symbol(frame, place, told));
        } else if (dice < 70) {
            int turn = within(0, 29);
            int which = within(0, 3);
            same("turn " + turn + " " + which, x.turn(turn, which), plain.turn(turn, which));
        } else if (dice < 74) {
            int scratch = within(0, 7);
            int which = within(0, 4);
            same("scratchOf " + scratch + " " + which, x.scratchOf(scratch, which), plain.scratchOf(scratch, which));
        } else if (dice < 84) {
            int which = within(0, 22);
            same("count " + which, x.count(which), plain.count(which));
        } else if (dice < 86) {
            due.dueDouble("right", x.right(), plain.right());
            calls++;
        } else if (dice < 90) {
            same("ifSought " + frame + " " + what, x.ifSought(frame, what), plain.ifSought(frame, what));
        } else if (dice < 94) {
            same("bestGuess " + frame, x.bestGuess(frame), plain.bestGuess(frame));
        } else if (dice < 97) {
            same("polishFirst " + what, x.polishFirst(what), plain.polishFirst(what));
        } else {
            same("gap " + what, x.gap(what), plain.gap(what));
        }
    }
}
