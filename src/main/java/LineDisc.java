import java.util.Arrays;

/** A disc that is read at a constant line speed; the document ../shared/DOC.md says what it does. */
public final class LineDisc {

    public static final int UNKNOWN = -1;
    public static final int BAD_VALUE = -2;
    public static final int FULL = -3;
    public static final int NOT_POSSIBLE = -4;
    public static final int NONE = -5;

    private static final int TURNS = 30;
    /** As many frames as the widest settings give: 40 in the turn 0, and 6 more in each that follows. */
    private static final int MOST_FRAMES = 3810;
    private static final int GROUP = 5;
    private static final int PLACES = 4;
    private static final int SYMBOLS = 16;
    private static final int SHORTEST_RUN = 3;
    private static final int DEGREES = 360;
    private static final int HUNDREDTHS = 100;
    private static final int MOST_PLAYED = 999;
    private static final int LOWEST_GUESS = 60;
    private static final int HIGHEST_GUESS = 140;
    private static final int FAULT_BASE = -100;
    private static final int BALANCE_BASE = 100;

    private static final int WHOLE = 0;
    private static final int MENDED = 1;
    private static final int FILLED = 2;
    private static final int MISSING = 3;
    /** Every bit: no scratch is left out when frames are judged. */
    private static final int ALL_SCRATCHES = -1;
    /** Far above the ticks or jumps that any call takes. */
    private static final int MOST_STEPS = 100000;

    private static final Word[] WORDS = Word.values();

    private final State now = new State();
    /** The state ahead of an act: it goes to the history if the act counts, and back if orders fail. */
    private final State before = new State();
    private final State snapshot = new State();
    private boolean kept = false;
    private final History history = new History();
    private final Orders orders = new Orders();
    private final Survey survey = new Survey();
    private final Head trial = new Head();

    public LineDisc() {
    }

    // ---- the disc

    public int press(int frame, int place, int symbol) {
        before.copyFrom(now);
        return recorded(pressSymbol(frame, place, symbol));
    }

    public int scratch(int from, int to, int inner, int outer) {
        before.copyFrom(now);
        return recorded(addScratch(from, to, inner, outer));
    }

    public int polish(int scratch) {
        before.copyFrom(now);
        return recorded(polishAway(scratch));
    }

    public int set(int which, int value) {
        if (!Settings.isInRange(which, value)) {
            return BAD_VALUE;
        }
        int previous = now.settings.settingAt(which);
        if (previous == value) {
            return NONE;
        }
        before.copyFrom(now);
        now.settings.change(which, value);
        if (which <= 1) {
            now.head.goToStart(now.settings);
        }
        return recorded(previous);
    }

    // ---- the head

    public int play(int frames) {
        before.copyFrom(now);
        return recorded(playFrames(frames));
    }

    public int seek(int frame) {
        before.copyFrom(now);
        return recorded(seekFrame(frame));
    }

    // ---- texts

    public int type(char character) {
        return orders.append(character) ? orders.length : FULL;
    }

    public int clearText() {
        return orders.clear();
    }

    public int fault() {
        return orders.readAll();
    }

    public int doAll() {
        int fault = orders.readAll();
        if (fault != NONE) {
            return FAULT_BASE - fault;
        }
        before.copyFrom(now);
        for (int order = 0; order < orders.size; order++) {
            int answer = doOrder(order);
            if (answer < 0 && answer != NONE) {
                now.copyFrom(before);
                return answer;
            }
        }
        return recorded(orders.size);
    }

    // ---- history

    public int undo() {
        return history.takeLatest(now) ? history.size : NONE;
    }

    public int keep() {
        snapshot.copyFrom(now);
        kept = true;
        return now.head.ticks;
    }

    public int restore() {
        if (!kept) {
            return NONE;
        }
        before.copyFrom(now);
        now.copyFrom(snapshot);
        return recorded(now.head.ticks);
    }

    // ---- what is told

    public int frame(int frame, int what) {
        Settings spiral = now.settings;
        if (!spiral.hasFrame(frame)) {
            return UNKNOWN;
        }
        switch (what) {
            case 0: return spiral.turnOf(frame);
            case 1: return frame - spiral.firstOf(spiral.turnOf(frame));
            case 2: return spiral.groupOf(frame);
            case 3: return Settings.isCheck(frame) ? 1 : 0;
            case 4: return survey.of(now).isDamaged(frame) ? 1 : 0;
            case 5: return survey.of(now).howIs(frame);
            case 6: return now.symbols.lengthOf(frame);
            case 7: return now.symbols.balanceOf(frame) + BALANCE_BASE;
            case 8: return now.symbols.longestRunOf(frame);
            default: return BAD_VALUE;
        }
    }

    public int symbol(int frame, int place, boolean told) {
        if (!now.settings.hasFrame(frame)) {
            return UNKNOWN;
        }
        if (!isPlace(place)) {
            return BAD_VALUE;
        }
        return told ? toldSymbol(frame, place) : now.symbols.standsAt(frame, place);
    }

    public int turn(int turn, int what) {
        if (turn < 0 || turn >= TURNS) {
            return UNKNOWN;
        }
        int first = now.settings.firstOf(turn);
        int frames = now.settings.framesOf(turn);
        switch (what) {
            case 0: return frames;
            case 1: return first;
            case 2: return survey.of(now).damagedIn(first, first + frames, ALL_SCRATCHES);
            case 3: return now.symbols.lengthOfAll(first, first + frames);
            default: return BAD_VALUE;
        }
    }

    public int scratchOf(int scratch, int what) {
        if (!now.scratches.has(scratch)) {
            return UNKNOWN;
        }
        switch (what) {
            case 0: return now.scratches.fromOf(scratch);
            case 1: return now.scratches.toOf(scratch);
            case 2: return now.scratches.innerOf(scratch);
            case 3: return now.scratches.outerOf(scratch);
            case 4: return survey.of(now).damagedIn(0, MOST_FRAMES, 1 << scratch);
            default: return BAD_VALUE;
        }
    }

    public int count(int what) {
        switch (what) {
            case 0: return now.settings.allFrames();
            case 1: return now.settings.groups();
            case 2: return now.scratches.size;
            case 3: return now.head.position;
            case 4: return now.settings.turnOf(now.head.position);
            case 5: return now.head.speed;
            case 6: return now.head.ticks;
            case 7: return now.head.read;
            case 8: return now.head.readWhole;
            case 9: return now.head.jumps;
            case 10: return survey.of(now).framesThatAre(WHOLE);
            case 11: return survey.of(now).framesThatAre(MENDED);
            case 12: return survey.of(now).framesThatAre(FILLED);
            case 13: return survey.of(now).framesThatAre(MISSING);
            case 14: return now.symbols.size;
            case 15: return history.size;
            case 16: return orders.length;
            default: return countSetting(what - 17);
        }
    }

    public double right() {
        int data = 0;
        int toldRight = 0;
        int frames = now.settings.allFrames();
        survey.of(now);
        for (int frame = 0; frame < frames; frame++) {
            if (!Settings.isCheck(frame)) {
                data++;
                toldRight += isToldRight(frame) ? 1 : 0;
            }
        }
        return data == 0 ? 1.0 : (double) toldRight / (double) data;
    }

    // ---- what would be

    public int ifSought(int frame, int what) {
        if (!now.settings.hasFrame(frame)) {
            return UNKNOWN;
        }
        if (what != 0 && what != 1) {
            return BAD_VALUE;
        }
        int ticks = trySeek(frame, now.settings.guess);
        return what == 0 ? ticks : trial.jumps - now.head.jumps;
    }

    public int bestGuess(int frame) {
        if (!now.settings.hasFrame(frame)) {
            return UNKNOWN;
        }
        int best = LOWEST_GUESS;
        int fewest = trySeek(frame, LOWEST_GUESS);
        for (int guess = LOWEST_GUESS + 1; guess <= HIGHEST_GUESS; guess++) {
            int ticks = trySeek(frame, guess);
            if (ticks < fewest) {
                best = guess;
                fewest = ticks;
            }
        }
        return best;
    }

    public int polishFirst(int what) {
        if (what != 0 && what != 1) {
            return BAD_VALUE;
        }
        if (now.scratches.size == 0) {
            return NONE;
        }
        int best = 0;
        int fewest = survey.of(now).missingWithout(0);
        for (int scratch = 1; scratch < now.scratches.size; scratch++) {
            int missing = survey.missingWithout(scratch);
            if (missing < fewest) {
                best = scratch;
                fewest = missing;
            }
        }
        survey.judge(ALL_SCRATCHES);
        return what == 0 ? best : fewest;
    }

    public int gap(int what) {
        if (what != 0 && what != 1) {
            return BAD_VALUE;
        }
        int longest = 0;
        int firstOfLongest = 0;
        int row = 0;
        int frames = now.settings.allFrames();
        survey.of(now);
        for (int frame = 0; frame < frames; frame++) {
            row = survey.howIs(frame) == MISSING ? row + 1 : 0;
            if (row > longest) {
                longest = row;
                firstOfLongest = frame - row + 1;
            }
        }
        if (longest == 0) {
            return NONE;
        }
        return what == 0 ? firstOfLongest : longest;
    }

    // ---- acts, without the record of the state before

    private int pressSymbol(int frame, int place, int symbol) {
        if (!now.settings.hasFrame(frame)) {
            return UNKNOWN;
        }
        if (!isPlace(place) || symbol < 0 || symbol >= SYMBOLS) {
            return BAD_VALUE;
        }
        if (Settings.isCheck(frame)) {
            return NOT_POSSIBLE;
        }
        int previous = now.symbols.standsAt(frame, place);
        if (previous == symbol) {
            return NONE;
        }
        return now.symbols.write(frame, place, symbol) ? previous : FULL;
    }

    private int addScratch(int from, int to, int inner, int outer) {
        boolean angles = from >= 0 && from <= to && to < DEGREES;
        boolean turns = inner >= 0 && inner <= outer && outer < TURNS;
        if (!angles || !turns) {
            return BAD_VALUE;
        }
        if (!now.scratches.add(from, to, inner, outer)) {
            return FULL;
        }
        return survey.of(now).damagedIn(0, MOST_FRAMES, ALL_SCRATCHES);
    }

    private int polishAway(int scratch) {
        if (!now.scratches.has(scratch)) {
            return UNKNOWN;
        }
        now.scratches.drop(scratch);
        return survey.of(now).damagedIn(0, MOST_FRAMES, ALL_SCRATCHES);
    }

    private int playFrames(int frames) {
        if (frames < 1 || frames > MOST_PLAYED) {
            return BAD_VALUE;
        }
        if (now.head.position >= now.settings.allFrames()) {
            return NONE;
        }
        return now.head.readFrames(frames, now.settings, survey.of(now));
    }

    private int seekFrame(int frame) {
        if (!now.settings.hasFrame(frame)) {
            return UNKNOWN;
        }
        int ticks = now.head.ticks;
        now.head.goTo(frame, now.settings, now.settings.guess);
        return now.head.ticks - ticks;
    }

    private int doOrder(int order) {
        Word word = orders.wordOf(order);
        if (word == null) {
            return NONE;
        }
        int first = orders.numberOf(order, 0);
        int second = orders.numberOf(order, 1);
        int third = orders.numberOf(order, 2);
        switch (word) {
            case SCRATCH: return addScratch(first, second, third, orders.numberOf(order, 3));
            case POLISH: return polishAway(first);
            case SEEK: return seekFrame(first);
            case PLAY: return playFrames(first);
            case PRESS: return pressSymbol(first, second, third);
            default: return NONE;
        }
    }

    private int recorded(int answer) {
        if (answer >= 0) {
            history.add(before);
        }
        return answer;
    }

    // ---- what the face tells by

    private int countSetting(int which) {
        return Settings.isSetting(which) ? now.settings.settingAt(which) : BAD_VALUE;
    }

    private int toldSymbol(int frame, int place) {
        int how = survey.of(now).howIs(frame);
        if (how == MISSING) {
            return NONE;
        }
        return how == FILLED ? filledSymbol(frame, place) : now.symbols.standsAt(frame, place);
    }

    private int filledSymbol(int frame, int place) {
        int ahead = now.symbols.standsAt(Settings.dataAhead(frame), place);
        int behind = now.symbols.standsAt(Settings.dataBehind(frame), place);
        return (ahead + behind) / 2;
    }

    /** The survey must be fresh. Whole and mended frames are always right: a check demands what stands. */
    private boolean isToldRight(int frame) {
        int how = survey.howIs(frame);
        boolean same = how != MISSING;
        for (int place = 0; place < PLACES && same && how == FILLED; place++) {
            same = filledSymbol(frame, place) == now.symbols.standsAt(frame, place);
        }
        return same;
    }

    private int trySeek(int frame, int guess) {
        trial.copyFrom(now.head);
        trial.goTo(frame, now.settings, guess);
        return trial.ticks - now.head.ticks;
    }

    private static boolean isPlace(int place) {
        return place >= 0 && place < PLACES;
    }

    private static int at(int[] row, int index) {
        return index >= 0 && index < row.length ? row[index] : 0;
    }

    private static void put(int[] row, int index, int value) {
        if (index >= 0 && index < row.length) {
            row[index] = value;
        }
    }

    /** Everything but the text, the history and the snapshot. */
    private static final class State {
        final Settings settings = new Settings();
        final Scratches scratches = new Scratches();
        final Symbols symbols = new Symbols();
        final Head head = new Head();

        void copyFrom(State other) {
            settings.copyFrom(other.settings);
            scratches.copyFrom(other.scratches);
            symbols.copyFrom(other.symbols);
            head.copyFrom(other.head);
        }
    }

    /** The settings, and the spiral that the first two of them lay. */
    private static final class Settings {
        int framesAtFirst = 20;
        int moreInEach = 2;
        int motor = 3;
        int off = 1;
        int guess = 90;
        int jumpTicks = 4;

        static boolean isSetting(int which) {
            return which >= 0 && which <= 5;
        }

        static boolean isInRange(int which, int value) {
            switch (which) {
                case 0: return value >= 8 && value <= 40;
                case 1: return value >= 0 && value <= 6;
                case 2: return value >= 1 && value <= 9;
                case 3: return value >= 0 && value <= 5;
                case 4: return value >= LOWEST_GUESS && value <= HIGHEST_GUESS;
                case 5: return value >= 0 && value <= 20;
                default: return false;
            }
        }

        int settingAt(int which) {
            switch (which) {
                case 0: return framesAtFirst;
                case 1: return moreInEach;
                case 2: return motor;
                case 3: return off;
                case 4: return guess;
                default: return jumpTicks;
            }
        }

        void change(int which, int value) {
            switch (which) {
                case 0: framesAtFirst = value; break;
                case 1: moreInEach = value; break;
                case 2: motor = value; break;
                case 3: off = value; break;
                case 4: guess = value; break;
                default: jumpTicks = value; break;
            }
        }

        void copyFrom(Settings other) {
            framesAtFirst = other.framesAtFirst;
            moreInEach = other.moreInEach;
            motor = other.motor;
            off = other.off;
            guess = other.guess;
            jumpTicks = other.jumpTicks;
        }

        boolean hasSpiralOf(Settings other) {
            return framesAtFirst == other.framesAtFirst && moreInEach == other.moreInEach;
        }

        int framesOf(int turn) {
            return framesAtFirst + moreInEach * turn;
        }

        int firstOf(int turn) {
            return framesAtFirst * turn + moreInEach * (turn * (turn - 1) / 2);
        }

        int allFrames() {
            return firstOf(TURNS);
        }

        boolean hasFrame(int frame) {
            return frame >= 0 && frame < allFrames();
        }

        /** The end of the disc, behind the last frame, is in the last turn. */
        int turnOf(int frame) {
            int turn = 0;
            while (turn < TURNS - 1 && frame >= firstOf(turn + 1)) {
                turn++;
            }
            return turn;
        }

        int groups() {
            return allFrames() / GROUP;
        }

        int groupOf(int frame) {
            int group = frame / GROUP;
            return group < groups() ? group : NONE;
        }

        /** A fifth frame that is on the disc always ends a full group, so no group needs to be looked for. */
        static boolean isCheck(int frame) {
            return frame % GROUP == GROUP - 1;
        }

        /** Of a data frame: the first of its group has a check just ahead of it. */
        static int dataAhead(int frame) {
            return frame % GROUP == 0 ? frame - 2 : frame - 1;
        }

        /** Of a data frame: the fourth of its group has a check just behind it. */
        static int dataBehind(int frame) {
            return frame % GROUP == GROUP - 2 ? frame + 2 : frame + 1;
        }
    }

    private static final class Scratches {
        private static final int MOST = 8;
        private static final int PARTS = 4;

        private final int[] parts = new int[MOST * PARTS];
        int size = 0;

        boolean add(int from, int to, int inner, int outer) {
            if (size >= MOST) {
                return false;
            }
            put(parts, size * PARTS, from);
            put(parts, size * PARTS + 1, to);
            put(parts, size * PARTS + 2, inner);
            put(parts, size * PARTS + 3, outer);
            size++;
            return true;
        }

        void drop(int scratch) {
            if (!has(scratch)) {
                return;
            }
            for (int i = scratch * PARTS; i < parts.length - PARTS; i++) {
                put(parts, i, at(parts, i + PARTS));
            }
            size--;
        }

        boolean has(int scratch) {
            return scratch >= 0 && scratch < size;
        }

        int fromOf(int scratch) {
            return at(parts, scratch * PARTS);
        }

        int toOf(int scratch) {
            return at(parts, scratch * PARTS + 1);
        }

        int innerOf(int scratch) {
            return at(parts, scratch * PARTS + 2);
        }

        int outerOf(int scratch) {
            return at(parts, scratch * PARTS + 3);
        }

        void copyFrom(Scratches other) {
            System.arraycopy(other.parts, 0, parts, 0, MOST * PARTS);
            size = other.size;
        }

        boolean isLike(Scratches other) {
            boolean like = size == other.size;
            for (int i = 0; like && i < size * PARTS; i++) {
                like = at(parts, i) == at(other.parts, i);
            }
            return like;
        }
    }

    /** What stands on the disc: only symbols that are not as at first are kept. */
    private static final class Symbols {
        private static final int MOST = 40;

        private final int[] cells = new int[MOST];
        private final int[] pressed = new int[MOST];
        int size = 0;

        static int atFirst(int frame, int place) {
            return (7 * frame + 3 * place) % SYMBOLS;
        }

        int standsAt(int frame, int place) {
            if (!Settings.isCheck(frame)) {
                return dataAt(frame, place);
            }
            int sum = 0;
            for (int data = frame - GROUP + 1; data < frame; data++) {
                sum += dataAt(data, place);
            }
            return sum % SYMBOLS;
        }

        private int dataAt(int frame, int place) {
            int index = indexOf(frame * PLACES + place);
            return index < 0 ? atFirst(frame, place) : at(pressed, index);
        }

        private int indexOf(int cell) {
            for (int i = 0; i < size && i < cells.length; i++) {
                if (cells[i] == cell) {
                    return i;
                }
            }
            return -1;
        }

        /** Writes nothing and answers false if there is no room for one more that is not as at first. */
        boolean write(int frame, int place, int symbol) {
            int cell = frame * PLACES + place;
            int index = indexOf(cell);
            if (symbol == atFirst(frame, place)) {
                drop(index);
                return true;
            }
            if (index < 0 && size >= MOST) {
                return false;
            }
            if (index < 0) {
                index = size;
                size++;
            }
            put(cells, index, cell);
            put(pressed, index, symbol);
            return true;
        }

        private void drop(int index) {
            if (index < 0 || index >= size) {
                return;
            }
            size--;
            put(cells, index, at(cells, size));
            put(pressed, index, at(pressed, size));
        }

        void copyFrom(Symbols other) {
            System.arraycopy(other.cells, 0, cells, 0, MOST);
            System.arraycopy(other.pressed, 0, pressed, 0, MOST);
            size = other.size;
        }

        static int pitOf(int symbol) {
            return SHORTEST_RUN + symbol / PLACES;
        }

        static int flatOf(int symbol) {
            return SHORTEST_RUN + symbol % PLACES;
        }

        int lengthOf(int frame) {
            int length = 0;
            for (int place = 0; place < PLACES; place++) {
                int symbol = standsAt(frame, place);
                length += pitOf(symbol) + flatOf(symbol);
            }
            return length;
        }

        int lengthOfAll(int first, int end) {
            int length = 0;
            for (int frame = first; frame < end; frame++) {
                length += lengthOf(frame);
            }
            return length;
        }

        int balanceOf(int frame) {
            int balance = 0;
            for (int place = 0; place < PLACES; place++) {
                int symbol = standsAt(frame, place);
                balance += pitOf(symbol) - flatOf(symbol);
            }
            return balance;
        }

        int longestRunOf(int frame) {
            int longest = 0;
            for (int place = 0; place < PLACES; place++) {
                int symbol = standsAt(frame, place);
                longest = Math.max(longest, Math.max(pitOf(symbol), flatOf(symbol)));
            }
            return longest;
        }
    }

    /** The head with its motor, and what both have done so far. */
    private static final class Head {
        int position = 0;
        int speed = 20;
        int ticks = 0;
        int read = 0;
        int readWhole = 0;
        int jumps = 0;

        void copyFrom(Head other) {
            position = other.position;
            speed = other.speed;
            ticks = other.ticks;
            read = other.read;
            readWhole = other.readWhole;
            jumps = other.jumps;
        }

        void goToStart(Settings settings) {
            position = 0;
            speed = settings.framesOf(0);
        }

        /** Many ticks at once bring the speed as near as the same ticks one by one. */
        private void spin(int count, int frames, Settings settings) {
            int most = count * settings.motor;
            speed = speed < frames ? Math.min(frames, speed + most) : Math.max(frames, speed - most);
            ticks += count;
        }

        private boolean isNear(int frames, Settings settings) {
            return Math.abs(speed - frames) <= settings.off;
        }

        int readFrames(int wanted, Settings settings, Survey survey) {
            int got = 0;
            int whole = 0;
            int end = settings.allFrames();
            for (int i = 0; i < MOST_STEPS && got < wanted && position < end; i++) {
                int frames = settings.framesOf(settings.turnOf(position));
                spin(1, frames, settings);
                if (isNear(frames, settings)) {
                    whole += survey.isDamaged(position) ? 0 : 1;
                    got++;
                    position++;
                }
            }
            read += got;
            readWhole += whole;
            return whole;
        }

        void goTo(int frame, Settings settings, int guess) {
            int aim = settings.turnOf(frame);
            int turn = settings.turnOf(position);
            for (int i = 0; i < MOST_STEPS && turn != aim; i++) {
                turn = jump(turn, aim, settings, guess);
            }
            int frames = settings.framesOf(aim);
            for (int i = 0; i < MOST_STEPS && !isNear(frames, settings); i++) {
                spin(1, frames, settings);
            }
            int first = settings.firstOf(aim);
            if (position > frame) {
                ticks += first + frames - position;
                position = first;
            }
            ticks += frame - position;
            position = frame;
        }

        private int jump(int turn, int aim, Settings settings, int guess) {
            int way = aim - turn;
            int turns = way * guess / HUNDREDTHS;
            if (turns == 0) {
                turns = way > 0 ? 1 : -1;
            }
            int arrival = Math.max(0, Math.min(TURNS - 1, turn + turns));
            int count = settings.jumpTicks + Math.abs(arrival - turn);
            spin(count, settings.framesOf(arrival), settings);
            position = settings.firstOf(arrival);
            jumps++;
            return arrival;
        }
    }

    /** How each frame is. It keeps what it was made for, so it can tell by itself when it is out of date. */
    private static final class Survey {
        private final Settings spiral = new Settings();
        private final Scratches scratches = new Scratches();
        /** For each frame, a bit for each scratch that damages it. */
        private final int[] hits = new int[MOST_FRAMES];
        private final int[] hows = new int[MOST_FRAMES];

        Survey of(State state) {
            if (!spiral.hasSpiralOf(state.settings) || !scratches.isLike(state.scratches)) {
                spiral.copyFrom(state.settings);
                scratches.copyFrom(state.scratches);
                Arrays.fill(hits, 0);
                for (int scratch = 0; scratch < scratches.size; scratch++) {
                    markScratch(scratch);
                }
                judge(ALL_SCRATCHES);
            }
            return this;
        }

        private void markScratch(int scratch) {
            int from = scratches.fromOf(scratch);
            int behind = scratches.toOf(scratch) + 1;
            int outer = Math.min(scratches.outerOf(scratch), TURNS - 1);
            for (int turn = Math.max(scratches.innerOf(scratch), 0); turn <= outer; turn++) {
                int frames = spiral.framesOf(turn);
                int first = spiral.firstOf(turn);
                markRow(first + from * frames / DEGREES, first + (behind * frames - 1) / DEGREES, 1 << scratch);
            }
        }

        private void markRow(int first, int last, int bit) {
            for (int frame = Math.max(first, 0); frame <= last && frame < hits.length; frame++) {
                hits[frame] |= bit;
            }
        }

        /** Judges all frames as if only the scratches of these bits were there. */
        void judge(int bits) {
            int frames = spiral.allFrames();
            for (int first = 0; first < frames; first += GROUP) {
                judgeGroup(first, Math.min(first + GROUP, frames), bits);
            }
            for (int frame = 0; frame < frames; frame++) {
                if (at(hows, frame) == MISSING && canBeFilled(frame, frames)) {
                    put(hows, frame, FILLED);
                }
            }
        }

        private void judgeGroup(int first, int end, int bits) {
            boolean mends = end - first == GROUP && damagedIn(first, end, bits) == 1;
            int damaged = mends ? MENDED : MISSING;
            for (int frame = first; frame < end; frame++) {
                put(hows, frame, (at(hits, frame) & bits) == 0 ? WHOLE : damaged);
            }
        }

        private boolean canBeFilled(int frame, int frames) {
            int ahead = Settings.dataAhead(frame);
            int behind = Settings.dataBehind(frame);
            return !Settings.isCheck(frame) && ahead >= 0 && behind < frames
                && at(hows, ahead) <= MENDED && at(hows, behind) <= MENDED;
        }

        int missingWithout(int scratch) {
            judge(~(1 << scratch));
            return framesThatAre(MISSING);
        }

        boolean isDamaged(int frame) {
            return at(hits, frame) != 0;
        }

        int howIs(int frame) {
            return at(hows, frame);
        }

        int damagedIn(int first, int end, int bits) {
            int damaged = 0;
            for (int frame = Math.max(first, 0); frame < end && frame < hits.length; frame++) {
                if ((hits[frame] & bits) != 0) {
                    damaged++;
                }
            }
            return damaged;
        }

        int framesThatAre(int how) {
            int found = 0;
            int frames = spiral.allFrames();
            for (int frame = 0; frame < frames && frame < hows.length; frame++) {
                if (hows[frame] == how) {
                    found++;
                }
            }
            return found;
        }
    }

    private static final class History {
        private static final int MOST = 4;

        private final State[] states = new State[MOST];
        int size = 0;

        History() {
            for (int i = 0; i < states.length; i++) {
                states[i] = new State();
            }
        }

        void add(State state) {
            if (size >= MOST) {
                dropOldest();
            }
            State room = stateAt(size);
            if (room != null) {
                room.copyFrom(state);
                size++;
            }
        }

        boolean takeLatest(State into) {
            State latest = stateAt(size - 1);
            if (latest == null) {
                return false;
            }
            into.copyFrom(latest);
            size--;
            return true;
        }

        /** The dropped state goes behind the others, where it is room for the next one. */
        private void dropOldest() {
            State oldest = stateAt(0);
            for (int i = 1; i < states.length; i++) {
                states[i - 1] = states[i];
            }
            if (states.length > 0) {
                states[states.length - 1] = oldest;
            }
            size--;
        }

        private State stateAt(int index) {
            return index >= 0 && index < states.length ? states[index] : null;
        }
    }

    /** The words of orders; in a form a capital letter is a number of its kind, any other sign itself. */
    private enum Word {
        SCRATCH("scratch=", "A-A@T-T"),
        POLISH("polish=", "D"),
        SEEK("seek=", "F"),
        PLAY("play=", "N"),
        PRESS("press=", "F.P:S");

        final String letters;
        final String form;

        Word(String letters, String form) {
            this.letters = letters;
            this.form = form;
        }

        static boolean isKind(char part) {
            return part >= 'A' && part <= 'Z';
        }

        static int lowest(char kind) {
            return kind == 'N' ? 1 : 0;
        }

        static int highest(char kind) {
            switch (kind) {
                case 'A': return DEGREES - 1;
                case 'T': return TURNS - 1;
                case 'D': return 9;
                case 'F': return 9999;
                case 'N': return MOST_PLAYED;
                case 'P': return PLACES - 1;
                default: return SYMBOLS - 1;
            }
        }
    }

    /** The text, and the orders that were read from it last. */
    private static final class Orders {
        private static final int MOST_SIGNS = 60;
        /** Above what a full text can hold: "play=1;" is among the shortest orders. */
        private static final int MOST_ORDERS = 10;
        private static final int MOST_NUMBERS = 4;
        private static final int MOST_DIGITS = 4;

        private final char[] signs = new char[MOST_SIGNS];
        int length = 0;
        private final Word[] words = new Word[MOST_ORDERS];
        private final int[] numbers = new int[MOST_ORDERS * MOST_NUMBERS];
        int size = 0;
        private int place = 0;

        boolean append(char sign) {
            if (length < 0 || length >= signs.length) {
                return false;
            }
            signs[length] = sign;
            length++;
            return true;
        }

        int clear() {
            int before = length;
            length = 0;
            return before;
        }

        Word wordOf(int order) {
            return order >= 0 && order < words.length ? words[order] : null;
        }

        int numberOf(int order, int which) {
            return at(numbers, order * MOST_NUMBERS + which);
        }

        /** Answers the fault; what is read of an order stops at the first sign that is not allowed. */
        int readAll() {
            place = 0;
            size = 0;
            for (int i = 0; i < MOST_ORDERS; i++) {
                if (!readOrder()) {
                    return place;
                }
                if (place >= length) {
                    return NONE;
                }
                if (!readSign(';')) {
                    return place;
                }
            }
            return place;
        }

        private boolean readOrder() {
            Word word = readWord();
            if (word == null || size >= words.length) {
                return false;
            }
            words[size] = word;
            int read = 0;
            for (int i = 0; i < word.form.length(); i++) {
                char part = word.form.charAt(i);
                boolean isNumber = Word.isKind(part);
                if (isNumber ? !readNumber(part, size * MOST_NUMBERS + read) : !readSign(part)) {
                    return false;
                }
                read += isNumber ? 1 : 0;
            }
            size++;
            return true;
        }

        /** Passes over as many letters as some word begins with. */
        private Word readWord() {
            int longest = 0;
            for (Word word : WORDS) {
                int same = sameAs(word.letters);
                if (same == word.letters.length()) {
                    place += same;
                    return word;
                }
                longest = Math.max(longest, same);
            }
            place += longest;
            return null;
        }

        private int sameAs(String letters) {
            int same = 0;
            while (same < letters.length() && hasSign(place + same, letters.charAt(same))) {
                same++;
            }
            return same;
        }

        private boolean readSign(char sign) {
            boolean there = hasSign(place, sign);
            place += there ? 1 : 0;
            return there;
        }

        private boolean hasSign(int index, char sign) {
            return index >= 0 && index < length && index < signs.length && signs[index] == sign;
        }

        private boolean readNumber(char kind, int into) {
            int value = 0;
            int digits = 0;
            int next = longerBy(value, digits, kind);
            while (digits < MOST_DIGITS && next >= 0) {
                value = next;
                digits++;
                place++;
                next = longerBy(value, digits, kind);
            }
            put(numbers, into, value);
            return digits > 0;
        }

        /** The number that the next sign makes of it, or -1 if that sign is no digit that is allowed here. */
        private int longerBy(int value, int digits, char kind) {
            boolean closed = digits > 0 && value == 0;
            if (closed || place < 0 || place >= length || place >= signs.length) {
                return -1;
            }
            char sign = signs[place];
            if (sign < '0' || sign > '9') {
                return -1;
            }
            int longer = value * 10 + (sign - '0');
            return longer >= Word.lowest(kind) && longer <= Word.highest(kind) ? longer : -1;
        }
    }
}
