/** Discs that tests begin with, and what the document says of them in plain sums. */
final class Discs {
    private Discs() {
    }

    static LineDisc with(int... settings) {
        LineDisc x = new LineDisc();
        for (int i = 0; i < settings.length; i++) {
            x.set(i, settings[i]);
        }
        return x;
    }

    /** Scratches the frames of the turn 0 with these indexes (20 frames of 18 degrees). */
    static LineDisc scratched(int... indexes) {
        LineDisc x = new LineDisc();
        for (int index : indexes) {
            x.scratch(18 * index, 18 * index + 17, 0, 0);
        }
        return x;
    }

    static LineDisc typed(String text) {
        LineDisc x = new LineDisc();
        Due.typeAll(x, text);
        return x;
    }

    /** The number of the first frame of a turn; that of the turn 30 is the number of all frames. */
    static int first(int framesAtFirst, int more, int turn) {
        int first = 0;
        for (int inner = 0; inner < turn; inner++) {
            first += framesAtFirst + more * inner;
        }
        return first;
    }

    static int atFirst(int frame, int place) {
        return (7 * frame + 3 * place) % 16;
    }

    /** Frames 0 to 3, 5 to 8 and so on, so that none of them is a check. */
    static int dataFrame(int number) {
        return number / 4 * 5 + number % 4;
    }

    /** Presses so many symbols, in data frames from the frame 0 on, at one place of each. */
    static void pressMany(LineDisc x, int many) {
        for (int i = 0; i < many; i++) {
            int frame = dataFrame(i);
            x.press(frame, 0, (atFirst(frame, 0) + 1) % 16);
        }
    }

    /** What tells the state, the history's size and the text, by few calls. */
    static String picture(LineDisc x) {
        StringBuilder picture = new StringBuilder();
        for (int what = 0; what <= 22; what++) {
            picture.append(x.count(what)).append(' ');
        }
        for (int scratch = 0; scratch < x.count(2); scratch++) {
            for (int what = 0; what <= 3; what++) {
                picture.append(x.scratchOf(scratch, what)).append(' ');
            }
        }
        for (int frame = 0; frame < 7; frame++) {
            picture.append(x.symbol(frame, 0, false)).append(' ').append(x.symbol(frame, 1, true)).append(' ');
        }
        return picture.append(x.fault()).append(' ').append(x.right()).append(' ').append(x.gap(0)).toString();
    }
}
