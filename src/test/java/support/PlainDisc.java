import java.util.ArrayList;
import java.util.List;
import java.util.Map;
import java.util.TreeMap;
import java.util.regex.Matcher;
import java.util.regex.Pattern;

/**
 * The document once more, written for plainness alone and from the document, not from LineDisc:
 * each answer is worked out anew from the state, tick by tick and frame by frame.
 */
final class PlainDisc {
    private static final String ANGLE = "(0|[1-9]|[1-9][0-9]|[12][0-9][0-9]|3[0-5][0-9])";
    private static final String TURN = "(0|[1-9]|[12][0-9])";
    private static final String FRAME = "(0|[1-9][0-9]{0,3})";
    private static final String ORDER = "(scratch=" + ANGLE + "-" + ANGLE + "@" + TURN + "-" + TURN + "|polish=[0-9]|seek=" + FRAME
        + "|play=[1-9][0-9]{0,2}|press=" + FRAME + "\\.[0-3]:(0|[1-9]|1[0-5]))";
    private static final Pattern TEXT = Pattern.compile(ORDER + "(;" + ORDER + ")*", Pattern.DOTALL);

    private static final class Plain {
        int[] settings = {20, 2, 3, 1, 90, 4};
        List<int[]> scratches = new ArrayList<>();
        Map<Integer, Integer> pressed = new TreeMap<>();
        int head = 0;
        int speed = 20;
        int ticks = 0;
        int read = 0;
        int whole = 0;
        int jumps = 0;

        Plain twin() {
            Plain twin = new Plain();
            twin.settings = settings.clone();
            twin.scratches = new ArrayList<>(scratches);
            twin.pressed = new TreeMap<>(pressed);
            twin.head = head;
            twin.speed = speed;
            twin.ticks = ticks;
            twin.read = read;
            twin.whole = whole;
            twin.jumps = jumps;
            return twin;
        }
    }

    private Plain p = new Plain();
    private Plain snapshot = null;
    private final List<Plain> history = new ArrayList<>();
    private final StringBuilder text = new StringBuilder();

    private int act(Plain before, int answer) {
        if (answer >= 0) {
            history.add(before);
            if (history.size() > 4) {
                history.remove(0);
            }
        }
        return answer;
    }

    // ---- the spiral

    private int framesIn(int turn) {
        return p.settings[0] + turn * p.settings[1];
    }

    private int all() {
        int all = 0;
        for (int turn = 0; turn < 30; turn++) {
            all += framesIn(turn);
        }
        return all;
    }

    private int first(int turn) {
        int first = 0;
        for (int inner = 0; inner < turn; inner++) {
            first += framesIn(inner);
        }
        return first;
    }

    private int turnAt(int frame) {
        int end = 0;
        for (int turn = 0; turn < 30; turn++) {
            end += framesIn(turn);
            if (frame < end) {
                return turn;
            }
        }
        return 29;
    }

    private boolean onDisc(int frame) {
        return 0 <= frame && frame < all();
    }

    private int group(int frame) {
        return frame / 5 * 5 + 4 < all() ? frame / 5 : -5;
    }

    private boolean check(int frame) {
        return group(frame) >= 0 && frame == group(frame) * 5 + 4;
    }

    // ---- symbols

    private int symbolOf(int frame, int place) {
        if (check(frame)) {
            int sum = 0;
            for (int i = 1; i <= 4; i++) {
                sum += symbolOf(frame - i, place);
            }
            return sum % 16;
        }
        return p.pressed.getOrDefault(frame * 10 + place, (7 * frame + 3 * place) % 16);
    }

    private int[] runs(int frame) {
        int[] runs = new int[8];
        for (int i = 0; i < 8; i++) {
            int symbol = symbolOf(frame, i / 2);
            runs[i] = 3 + (i % 2 == 0 ? symbol / 4 : symbol % 4);
        }
        return runs;
    }

    private int length(int frame) {
        int length = 0;
        for (int run : runs(frame)) {
            length += run;
        }
        return length;
    }

    // ---- damage

    private boolean hit(int frame, int[] scratch) {
        int turn = turnAt(frame);
        if (turn < scratch[2] || turn > scratch[3]) {
            return false;
        }
        long frames = framesIn(turn);
        long index = frame - first(turn);
        // all angles times the frames of the turn, so that they are whole numbers
        for (long degree = scratch[0]; degree <= scratch[1]; degree++) {
            if (Math.max(degree * frames, 360 * index) < Math.min((degree + 1) * frames, 360 * (index + 1))) {
                return true;
            }
        }
        return false;
    }

    private int[] lastHows = null;
    private List<int[]> lastScratches = null;
    private String lastSpiral = "";

    /** How the frames are; kept as long as scratches and spiral stay, for it takes long. */
    private int[] hows(List<int[]> scratches) {
        String spiral = p.settings[0] + " " + p.settings[1];
        if (lastHows == null || !spiral.equals(lastSpiral) || !scratches.equals(lastScratches)) {
            lastHows = howsAnew(scratches);
            lastScratches = new ArrayList<>(scratches);
            lastSpiral = spiral;
        }
        return lastHows;
    }

    private int[] howsAnew(List<int[]> scratches) {
        int all = all();
        boolean[] bad = new boolean[all];
        for (int i = 0; i < all; i++) {
            for (int[] scratch : scratches) {
                bad[i] |= hit(i, scratch);
            }
        }
        int[] hows = new int[all];
        for (int i = 0; i < all; i++) {
            hows[i] = bad[i] ? 3 : 0;
            if (bad[i] && group(i) >= 0) {
                int others = 0;
                for (int k = 5 * group(i); k < 5 * group(i) + 5; k++) {
                    others += bad[k] && k != i ? 1 : 0;
                }
                hows[i] = others == 0 ? 1 : 3;
            }
        }
        int[] filled = hows.clone();
        List<Integer> data = new ArrayList<>();
        for (int i = 0; i < all; i++) {
            if (!check(i)) {
                data.add(i);
            }
        }
        for (int k = 1; k + 1 < data.size(); k++) {
            if (hows[data.get(k)] == 3 && hows[data.get(k - 1)] < 2 && hows[data.get(k + 1)] < 2) {
                filled[data.get(k)] = 2;
            }
        }
        return filled;
    }

    private int many(int[] hows, int how) {
        int many = 0;
        for (int each : hows) {
            many += each == how ? 1 : 0;
        }
        return many;
    }

    private int damaged() {
        return all() - many(hows(p.scratches), 0);
    }

    private int toldOf(int frame, int place) {
        int how = hows(p.scratches)[frame];
        if (how < 2) {
            return symbolOf(frame, place);
        }
        if (how == 3) {
            return -5;
        }
        int ahead = frame - 1;
        while (check(ahead)) {
            ahead--;
        }
        int behind = frame + 1;
        while (check(behind)) {
            behind++;
        }
        return (symbolOf(ahead, place) + symbolOf(behind, place)) / 2;
    }

    // ---- the head

    private void tick(int turn, boolean moves) {
        p.ticks++;
        for (int i = 0; moves && i < p.settings[2]; i++) {
            p.speed += Integer.signum(framesIn(turn) - p.speed);
        }
    }

    private boolean near(int turn) {
        int off = p.speed - framesIn(turn);
        return -p.settings[3] <= off && off <= p.settings[3];
    }

    private void go(int frame, int guess) {
        int wanted = turnAt(frame);
        while (turnAt(p.head) != wanted) {
            int here = turnAt(p.head);
            int d = wanted - here;
            int by = Integer.signum(d) * (Math.abs(d) * guess / 100);
            if (by == 0) {
                by = Integer.signum(d);
            }
            int there = here + by;
            if (there < 0) {
                there = 0;
            }
            if (there > 29) {
                there = 29;
            }
            for (int i = 0; i < p.settings[5] + Math.abs(there - here); i++) {
                tick(there, true);
            }
            p.head = first(there);
            p.jumps++;
        }
        while (!near(wanted)) {
            tick(wanted, true);
        }
        if (p.head > frame) {
            while (p.head < first(wanted) + framesIn(wanted)) {
                tick(wanted, false);
                p.head++;
            }
            p.head = first(wanted);
        }
        while (p.head != frame) {
            tick(wanted, false);
            p.head++;
        }
    }

    private int[] tried(int frame, int guess) {
        Plain here = p;
        p = p.twin();
        go(frame, guess);
        int[] tried = {p.ticks - here.ticks, p.jumps - here.jumps};
        p = here;
        return tried;
    }

    // ---- acts

    int press(int frame, int place, int symbol) {
        if (!onDisc(frame)) {
            return -1;
        }
        if (place < 0 || place > 3 || symbol < 0 || symbol > 15) {
            return -2;
        }
        if (check(frame)) {
            return -4;
        }
        int old = symbolOf(frame, place);
        if (old == symbol) {
            return -5;
        }
        Plain before = p.twin();
        p.pressed.remove(frame * 10 + place);
        if (p.pressed.size() == 40) {
            p = before;
            return -3;
        }
        if (symbolOf(frame, place) != symbol) {
            p.pressed.put(frame * 10 + place, symbol);
        }
        return act(before, old);
    }

    int scratch(int from, int to, int inner, int outer) {
        if (from < 0 || from > 359 || to < from || to > 359 || inner < 0 || inner > 29 || outer < inner || outer > 29) {
            return -2;
        }
        if (p.scratches.size() == 8) {
            return -3;
        }
        Plain before = p.twin();
        p.scratches.add(new int[] {from, to, inner, outer});
        return act(before, damaged());
    }

    int polish(int scratch) {
        if (scratch < 0 || scratch >= p.scratches.size()) {
            return -1;
        }
        Plain before = p.twin();
        p.scratches.remove(scratch);
        return act(before, damaged());
    }

    int set(int which, int value) {
        int[] lowest = {8, 0, 1, 0, 60, 0};
        int[] highest = {40, 6, 9, 5, 140, 20};
        if (which < 0 || which > 5 || value < lowest[which] || value > highest[which]) {
            return -2;
        }
        int old = p.settings[which];
        if (old == value) {
            return -5;
        }
        Plain before = p.twin();
        p.settings[which] = value;
        if (which < 2) {
            p.head = 0;
            p.speed = p.settings[0];
        }
        return act(before, old);
    }

    int play(int frames) {
        if (frames < 1 || frames > 999) {
            return -2;
        }
        if (p.head == all()) {
            return -5;
        }
        Plain before = p.twin();
        int end = Math.min(all(), p.head + frames);
        int[] hows = hows(p.scratches);
        while (p.head < end) {
            int turn = turnAt(p.head);
            tick(turn, true);
            if (near(turn)) {
                p.read++;
                p.whole += hows[p.head] == 0 ? 1 : 0;
                p.head++;
            }
        }
        return act(before, p.whole - before.whole);
    }

    int seek(int frame) {
        if (!onDisc(frame)) {
            return -1;
        }
        Plain before = p.twin();
        go(frame, p.settings[4]);
        return act(before, p.ticks - before.ticks);
    }

    // ---- texts

    int type(char character) {
        if (text.length() == 60) {
            return -3;
        }
        text.append(character);
        return text.length();
    }

    int clearText() {
        int length = text.length();
        text.setLength(0);
        return length;
    }

    private static boolean canGoOn(String start) {
        Matcher matcher = TEXT.matcher(start);
        return matcher.matches() || matcher.hitEnd();
    }

    int fault() {
        for (int i = 0; i < text.length(); i++) {
            if (!canGoOn(text.substring(0, i + 1))) {
                return i;
            }
        }
        return TEXT.matcher(text).matches() ? -5 : text.length();
    }

    int doAll() {
        int fault = fault();
        if (fault != -5) {
            return -100 - fault;
        }
        Plain before = p;
        p = before.twin();
        List<Plain> states = new ArrayList<>(history);
        String[] orders = text.toString().split(";");
        for (String order : orders) {
            int answer = one(order);
            if (answer < 0 && answer != -5) {
                p = before;
                history.clear();
                history.addAll(states);
                return answer;
            }
        }
        history.clear();
        history.addAll(states);
        return act(before, orders.length);
    }

    private int one(String order) {
        String[] parts = order.substring(order.indexOf('=') + 1).split("[^0-9]");
        int[] n = new int[parts.length];
        for (int i = 0; i < n.length; i++) {
            n[i] = Integer.parseInt(parts[i]);
        }
        if (order.startsWith("sc")) {
            return scratch(n[0], n[1], n[2], n[3]);
        }
        if (order.startsWith("po")) {
            return polish(n[0]);
        }
        if (order.startsWith("se")) {
            return seek(n[0]);
        }
        return order.startsWith("pl") ? play(n[0]) : press(n[0], n[1], n[2]);
    }

    // ---- history

    int undo() {
        if (history.isEmpty()) {
            return -5;
        }
        p = history.remove(history.size() - 1).twin();
        return history.size();
    }

    int keep() {
        snapshot = p.twin();
        return p.ticks;
    }

    int restore() {
        if (snapshot == null) {
            return -5;
        }
        Plain before = p;
        p = snapshot.twin();
        return act(before, p.ticks);
    }

    // ---- what is told

    int frame(int frame, int what) {
        if (!onDisc(frame)) {
            return -1;
        }
        if (what < 0 || what > 8) {
            return -2;
        }
        int pits = 0;
        int flat = 0;
        int longest = 0;
        int[] runs = runs(frame);
        for (int i = 0; i < 8; i++) {
            pits += i % 2 == 0 ? runs[i] : 0;
            flat += i % 2 == 0 ? 0 : runs[i];
            longest = Math.max(longest, runs[i]);
        }
        int turn = turnAt(frame);
        int how = hows(p.scratches)[frame];
        int[] told = {turn, frame - first(turn), group(frame), check(frame) ? 1 : 0, how == 0 ? 0 : 1, how, pits + flat,
            100 + pits - flat, longest};
        return told[what];
    }

    int symbol(int frame, int place, boolean told) {
        if (!onDisc(frame)) {
            return -1;
        }
        if (place < 0 || place > 3) {
            return -2;
        }
        return told ? toldOf(frame, place) : symbolOf(frame, place);
    }

    int turn(int turn, int what) {
        if (turn < 0 || turn > 29) {
            return -1;
        }
        if (what < 0 || what > 3) {
            return -2;
        }
        int bad = 0;
        int length = 0;
        int[] hows = hows(p.scratches);
        for (int frame = first(turn); frame < first(turn) + framesIn(turn); frame++) {
            bad += hows[frame] == 0 ? 0 : 1;
            length += length(frame);
        }
        return new int[] {framesIn(turn), first(turn), bad, length}[what];
    }

    int scratchOf(int scratch, int what) {
        if (scratch < 0 || scratch >= p.scratches.size()) {
            return -1;
        }
        if (what < 0 || what > 4) {
            return -2;
        }
        if (what < 4) {
            return p.scratches.get(scratch)[what];
        }
        return all() - many(howsAnew(List.of(p.scratches.get(scratch))), 0);
    }

    int count(int what) {
        if (what < 0 || what > 22) {
            return -2;
        }
        if (what >= 10 && what <= 13) {
            return many(hows(p.scratches), what - 10);
        }
        int[] s = p.settings;
        int[] told = {all(), all() / 5, p.scratches.size(), p.head, turnAt(p.head), p.speed, p.ticks, p.read, p.whole, p.jumps,
            0, 0, 0, 0, p.pressed.size(), history.size(), text.length(), s[0], s[1], s[2], s[3], s[4], s[5]};
        return told[what];
    }

    double right() {
        int data = 0;
        int right = 0;
        for (int frame = 0; frame < all(); frame++) {
            if (!check(frame)) {
                data++;
                boolean same = true;
                for (int place = 0; place < 4; place++) {
                    same &= toldOf(frame, place) == symbolOf(frame, place);
                }
                right += same ? 1 : 0;
            }
        }
        return (double) right / data;
    }

    // ---- what would be

    int ifSought(int frame, int what) {
        if (!onDisc(frame)) {
            return -1;
        }
        if (what < 0 || what > 1) {
            return -2;
        }
        return tried(frame, p.settings[4])[what];
    }

    int bestGuess(int frame) {
        if (!onDisc(frame)) {
            return -1;
        }
        int best = 140;
        for (int guess = 140; guess >= 60; guess--) {
            if (tried(frame, guess)[0] <= tried(frame, best)[0]) {
                best = guess;
            }
        }
        return best;
    }

    int polishFirst(int what) {
        if (what < 0 || what > 1) {
            return -2;
        }
        if (p.scratches.isEmpty()) {
            return -5;
        }
        int best = -1;
        int fewest = 0;
        for (int i = p.scratches.size() - 1; i >= 0; i--) {
            List<int[]> others = new ArrayList<>(p.scratches);
            others.remove(i);
            int missing = many(howsAnew(others), 3);
            if (best < 0 || missing <= fewest) {
                best = i;
                fewest = missing;
            }
        }
        return what == 0 ? best : fewest;
    }

    int gap(int what) {
        if (what < 0 || what > 1) {
            return -2;
        }
        StringBuilder row = new StringBuilder();
        for (int how : hows(p.scratches)) {
            row.append(how);
        }
        String missing = "";
        while (row.indexOf(missing + "3") >= 0) {
            missing += "3";
        }
        if (missing.isEmpty()) {
            return -5;
        }
        return what == 0 ? row.indexOf(missing) : missing.length();
    }
}
