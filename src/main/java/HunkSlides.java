/** A viewer of differences whose hunks can slide; ../shared/DOC.md says what it must do. */
public final class HunkSlides {
    public static final int INVALID_ARGUMENT = -1;
    public static final int NOT_POSSIBLE = -2;
    public static final int LIMIT_REACHED = -3;
    public static final int NOT_FOUND = -4;
    public static final int AROUND = 0, SLIDE = 1;

    private static final int THIRD = 2;
    private static final int MOST_AROUND = 3;
    private static final int TEXT_LIMIT = 14;
    private static final int PAD_LIMIT = 40;
    private static final int HISTORY_LIMIT = 4;

    // No view, patch or text under patches is longer than two full texts.
    private static final int ROOM = 2 * TEXT_LIMIT;

    private static final String SIGNS = "abcdef.{}";
    private static final int BLANK = 6, OPENING = 7, CLOSING = 8;
    private static final int IN_PLACE = 10, PUT_OUT = 20;

    private final Row pad = new Row(PAD_LIMIT);
    private final State now = new State();
    private final State snapshot = new State();
    private boolean saved = false;
    private final History history = new History();
    private final Row spare = new Row(TEXT_LIMIT);
    private final Comparison comparison = new Comparison();
    private final View shown = new View();
    private final Laying laying = new Laying();

    public HunkSlides() {
    }

    // ---- texts

    public int append(int code) {
        if (code < 33 || code > 126) {
            return INVALID_ARGUMENT;
        }
        if (pad.size() >= PAD_LIMIT) {
            return LIMIT_REACHED;
        }
        pad.add(code);
        return pad.size();
    }

    public int clear() {
        int before = pad.size();
        pad.emptyOut();
        return before;
    }

    public int fault() {
        for (int position = 0; position < pad.size(); position++) {
            if (position >= TEXT_LIMIT || padSign(position) < 0) {
                return position;
            }
        }
        return NOT_FOUND;
    }

    public int load(int text) {
        if (!isText(text)) {
            return INVALID_ARGUMENT;
        }
        if (fault() != NOT_FOUND) {
            return NOT_POSSIBLE;
        }
        history.record(now);
        Row lines = now.text(text);
        lines.emptyOut();
        for (int position = 0; position < pad.size(); position++) {
            lines.add(padSign(position));
        }
        pad.emptyOut();
        return lines.size();
    }

    public int edit(int text, int line, int sign) {
        if (!isText(text)) {
            return INVALID_ARGUMENT;
        }
        Row lines = now.text(text);
        boolean putIn = isSign(sign);
        boolean inPlace = isSign(sign - IN_PLACE);
        if (!putIn && !inPlace && sign != PUT_OUT) {
            return INVALID_ARGUMENT;
        }
        if (line < 0 || line > lines.size() || (line == lines.size() && !putIn)) {
            return INVALID_ARGUMENT;
        }
        if (putIn && lines.size() >= TEXT_LIMIT) {
            return LIMIT_REACHED;
        }
        history.record(now);
        if (putIn) {
            lines.putIn(line, sign);
        } else if (inPlace) {
            lines.change(line, sign - IN_PLACE);
        } else {
            lines.putOut(line);
        }
        return lines.size();
    }

    public int swap(int one, int other) {
        if (!isText(one) || !isText(other) || one == other) {
            return INVALID_ARGUMENT;
        }
        history.record(now);
        spare.become(now.text(one));
        now.text(one).become(now.text(other));
        now.text(other).become(spare);
        return distanceNow();
    }

    public int set(int what, int value) {
        if (what != AROUND && what != SLIDE) {
            return INVALID_ARGUMENT;
        }
        if (value < 0 || value > (what == AROUND ? MOST_AROUND : 1)) {
            return INVALID_ARGUMENT;
        }
        history.record(now);
        int before = now.setting(what);
        now.changeSetting(what, value);
        return before;
    }

    public int lay(boolean backwards) {
        show();
        laying.layAll(shown, now.text(THIRD), now.setting(AROUND), backwards);
        if (laying.longest() > TEXT_LIMIT) {
            return LIMIT_REACHED;
        }
        history.record(now);
        now.text(THIRD).become(laying.result());
        now.addPatches(laying.laid(), shown.hunks() - laying.laid());
        return laying.laid();
    }

    // ---- looks; nothing is changed

    public int line(int text, int line) {
        if (!isText(text) || line < 0) {
            return INVALID_ARGUMENT;
        }
        Row lines = now.text(text);
        return line < lines.size() ? lines.at(line) : NOT_FOUND;
    }

    public int distance(int way) {
        if (way == 0) {
            return distanceNow();
        }
        if (way == 1) {
            return comparison.apartBySteps(now.text(0), now.text(1));
        }
        return INVALID_ARGUMENT;
    }

    public int view(int place, int what) {
        if (place < 0 || what < 0 || what > 4) {
            return INVALID_ARGUMENT;
        }
        show();
        if (place >= shown.size()) {
            return NOT_FOUND;
        }
        switch (what) {
            case 0: return shown.kind(place);
            case 1: return shown.sign(place);
            case 2: return shown.kind(place) == View.COMES ? NOT_FOUND : shown.oldAhead(place);
            case 3: return shown.kind(place) == View.GOES ? NOT_FOUND : shown.newAhead(place);
            default: return shown.hunkOf(place);
        }
    }

    public int hunk(int hunk, int what) {
        if (what < 0 || what > 9) {
            return INVALID_ARGUMENT;
        }
        show();
        if (!shown.has(hunk)) {
            return INVALID_ARGUMENT;
        }
        switch (what) {
            case 0: return shown.top(hunk);
            case 1: return shown.linesOf(hunk, View.GOES);
            case 2: return shown.linesOf(hunk, View.COMES);
            case 3: return shown.isPlain(hunk) ? 1 : 0;
            case 4: return shown.reach(hunk, false);
            case 5: return shown.reach(hunk, true);
            case 6: return shown.worth(hunk);
            case 7: return shown.greatestWorth(hunk);
            case 8: return shown.around(hunk, now.setting(AROUND), false);
            default: return shown.around(hunk, now.setting(AROUND), true);
        }
    }

    public int whyNot(int hunk, boolean down) {
        show();
        return shown.has(hunk) ? shown.hindrance(hunk, down) : INVALID_ARGUMENT;
    }

    public int count(int what) {
        if (what < 0 || what > 17) {
            return INVALID_ARGUMENT;
        }
        if (isText(what)) {
            return now.text(what).size();
        }
        if (what > 11) {
            return heldNumber(what);
        }
        show();
        return shownNumber(what);
    }

    public double alike() {
        int lines = now.text(0).size() + now.text(1).size();
        if (lines == 0) {
            return 1.0;
        }
        int kept = comparison.keptOf(now.text(0), now.text(1));
        return (double) (2 * kept) / lines;
    }

    // ---- what would be; nothing is changed

    public int ifLaid(int hunk, boolean backwards, int what) {
        if (what != 0 && what != 1) {
            return INVALID_ARGUMENT;
        }
        show();
        if (!shown.has(hunk)) {
            return INVALID_ARGUMENT;
        }
        laying.layAll(shown, now.text(THIRD), now.setting(AROUND), backwards);
        int place = laying.placeOf(hunk);
        if (place == NOT_FOUND) {
            return NOT_FOUND;
        }
        return what == 0 ? place : laying.lowerOf(hunk) + 100;
    }

    public int ifAround(int around) {
        if (around < 0 || around > MOST_AROUND) {
            return INVALID_ARGUMENT;
        }
        show();
        laying.layAll(shown, now.text(THIRD), around, false);
        return laying.laid();
    }

    public int least() {
        Row old = now.text(0);
        if (old.isEmpty()) {
            return NOT_POSSIBLE;
        }
        int best = 0;
        int bestDistance = ROOM + 1;
        for (int line = 0; line < old.size(); line++) {
            spare.become(old);
            spare.putOut(line);
            int without = comparison.apart(spare, now.text(1));
            if (without < bestDistance) {
                bestDistance = without;
                best = line;
            }
        }
        return best;
    }

    // ---- history, snapshot

    public int undo() {
        if (history.isEmpty()) {
            return NOT_POSSIBLE;
        }
        history.takeBack(now);
        return history.size();
    }

    public int save() {
        snapshot.become(now);
        saved = true;
        return distanceNow();
    }

    public int restore() {
        if (!saved) {
            return NOT_POSSIBLE;
        }
        history.record(now);
        now.become(snapshot);
        return distanceNow();
    }

    // ---- helpers of the face

    private static boolean isText(int text) {
        return text >= 0 && text <= THIRD;
    }

    private static boolean isSign(int sign) {
        return sign >= 0 && sign < SIGNS.length();
    }

    /** The sign that a character of the pad tells, below 0 if it tells none. */
    private int padSign(int position) {
        return SIGNS.indexOf((char) pad.at(position));
    }

    private int distanceNow() {
        return comparison.apart(now.text(0), now.text(1));
    }

    /** Makes the view as it is told by the texts and the settings of now. */
    private void show() {
        shown.gather(now.text(0), now.text(1), comparison);
        if (now.setting(SLIDE) == 1) {
            shown.settle();
        }
    }

    private int shownNumber(int what) {
        switch (what) {
            case 3: return shown.size();
            case 4: return shown.linesOfKind(View.KEPT);
            case 5: return shown.linesOfKind(View.GOES);
            case 6: return shown.linesOfKind(View.COMES);
            case 7: return shown.hunks();
            case 8: return shown.plainHunks();
            case 9: return shown.slidingHunks();
            case 10: return shown.worthOfAll();
            default: return shown.longestKept();
        }
    }

    private int heldNumber(int what) {
        switch (what) {
            case 12: return now.laid();
            case 13: return now.leftOut();
            case 14: return now.setting(AROUND);
            case 15: return now.setting(SLIDE);
            case 16: return pad.size();
            default: return history.size();
        }
    }

    /** A row of numbers with a fixed room; no index can make it throw. */
    private static final class Row {
        static final int NONE = -1;

        private final int[] values;
        private int size = 0;

        Row(int room) {
            values = new int[room > 0 ? room : 0];
        }

        int size() {
            return size;
        }

        boolean isEmpty() {
            return size == 0;
        }

        /** The number at an index, NONE where the row has none. */
        int at(int index) {
            return index >= 0 && index < size && index < values.length ? values[index] : NONE;
        }

        void emptyOut() {
            size = 0;
        }

        void add(int value) {
            if (size >= 0 && size < values.length) {
                values[size] = value;
                size++;
            }
        }

        void change(int index, int value) {
            if (index >= 0 && index < size && index < values.length) {
                values[index] = value;
            }
        }

        void putIn(int index, int value) {
            if (index < 0 || index > size || size >= values.length) {
                return;
            }
            size++;
            for (int i = size - 1; i > index; i--) {
                change(i, at(i - 1));
            }
            change(index, value);
        }

        void putOut(int index) {
            if (index < 0 || index >= size) {
                return;
            }
            for (int i = index; i < size - 1; i++) {
                change(i, at(i + 1));
            }
            size--;
        }

        void become(Row other) {
            emptyOut();
            for (int i = 0; i < other.size(); i++) {
                add(other.at(i));
            }
        }

        /** Makes it a row of so many zeros. */
        void becomeZeros(int many) {
            emptyOut();
            for (int i = 0; i < many; i++) {
                add(0);
            }
        }
    }

    /** Everything that a change records and that a snapshot holds. */
    private static final class State {
        private final Row oldText = new Row(TEXT_LIMIT);
        private final Row newText = new Row(TEXT_LIMIT);
        private final Row thirdText = new Row(TEXT_LIMIT);
        private int around = 1;
        private int slide = 0;
        private int laid = 0;
        private int leftOut = 0;

        Row text(int which) {
            if (which == 0) {
                return oldText;
            }
            return which == 1 ? newText : thirdText;
        }

        int setting(int what) {
            return what == AROUND ? around : slide;
        }

        void changeSetting(int what, int value) {
            if (what == AROUND) {
                around = value;
            } else {
                slide = value;
            }
        }

        int laid() {
            return laid;
        }

        int leftOut() {
            return leftOut;
        }

        void addPatches(int moreLaid, int moreLeftOut) {
            laid += moreLaid;
            leftOut += moreLeftOut;
        }

        void become(State other) {
            oldText.become(other.oldText);
            newText.become(other.newText);
            thirdText.become(other.thirdText);
            around = other.around;
            slide = other.slide;
            laid = other.laid;
            leftOut = other.leftOut;
        }
    }

    /** The states before the latest changes, the oldest one first. */
    private static final class History {
        private final State[] states = new State[HISTORY_LIMIT];
        private int size = 0;

        History() {
            for (int i = 0; i < states.length; i++) {
                states[i] = new State();
            }
        }

        int size() {
            return size;
        }

        boolean isEmpty() {
            return size == 0;
        }

        void record(State state) {
            if (size >= states.length) {
                dropOldest();
            }
            copy(state, slot(size));
            size++;
        }

        /** Makes the given state the latest one that is recorded, and forgets that. */
        void takeBack(State state) {
            if (size > 0) {
                size--;
                copy(slot(size), state);
            }
        }

        // The states' contents move, so that no new state is ever made.
        private void dropOldest() {
            for (int i = 1; i < size; i++) {
                copy(slot(i), slot(i - 1));
            }
            size--;
        }

        private State slot(int index) {
            return index >= 0 && index < states.length ? states[index] : null;
        }

        private static void copy(State from, State to) {
            if (from != null && to != null) {
                to.become(from);
            }
        }
    }

    /** How far two texts are apart, and which of their lines are kept. */
    private static final class Comparison {
        private static final int SIDE = TEXT_LIMIT + 1;
        private static final int MIDDLE = ROOM + 1;

        // k(i, j) stands at i * SIDE + j.
        private final Row most = new Row(SIDE * SIDE);
        private final Row farthest = new Row(2 * MIDDLE + 1);

        void compare(Row old, Row fresh) {
            most.becomeZeros(SIDE * SIDE);
            for (int i = old.size() - 1; i >= 0; i--) {
                for (int j = fresh.size() - 1; j >= 0; j--) {
                    int kept = old.at(i) == fresh.at(j)
                            ? keptFrom(i + 1, j + 1) + 1
                            : Math.max(keptFrom(i + 1, j), keptFrom(i, j + 1));
                    most.change(i * SIDE + j, kept);
                }
            }
        }

        /** How the walk through both compared texts goes on from the lines i and j. */
        int step(Row old, Row fresh, int i, int j) {
            boolean oldLeft = i < old.size();
            boolean newLeft = j < fresh.size();
            if (oldLeft && newLeft && old.at(i) == fresh.at(j)) {
                return View.KEPT;
            }
            if (oldLeft && (!newLeft || keptFrom(i + 1, j) >= keptFrom(i, j + 1))) {
                return View.GOES;
            }
            return View.COMES;
        }

        int keptOf(Row old, Row fresh) {
            compare(old, fresh);
            return keptFrom(0, 0);
        }

        int apart(Row old, Row fresh) {
            return old.size() + fresh.size() - 2 * keptOf(old, fresh);
        }

        /**
         * The distance by how far down the old text each diagonal (old line less new line)
         * comes with 0, 1, 2 and more lines that go or come.
         */
        int apartBySteps(Row old, Row fresh) {
            int all = old.size() + fresh.size();
            farthest.becomeZeros(2 * MIDDLE + 1);
            for (int steps = 0; steps <= all; steps++) {
                for (int diagonal = -steps; diagonal <= steps; diagonal += 2) {
                    int i = followKept(old, fresh, entry(diagonal, steps), diagonal);
                    farthest.change(MIDDLE + diagonal, i);
                    if (i >= old.size() && i - diagonal >= fresh.size()) {
                        return steps;
                    }
                }
            }
            return all;
        }

        private int keptFrom(int i, int j) {
            return most.at(i * SIDE + j);
        }

        /** Where a diagonal is reached by one more line that goes or comes. */
        private int entry(int diagonal, int steps) {
            int byComing = farthest.at(MIDDLE + diagonal + 1);
            int byGoing = farthest.at(MIDDLE + diagonal - 1) + 1;
            if (steps == 0) {
                return 0;
            }
            if (diagonal == -steps) {
                return byComing;
            }
            return diagonal == steps || byGoing > byComing ? byGoing : byComing;
        }

        private static int followKept(Row old, Row fresh, int from, int diagonal) {
            int i = from;
            while (i < old.size() && i - diagonal < fresh.size()
                    && old.at(i) == fresh.at(i - diagonal)) {
                i++;
            }
            return i;
        }
    }

    /** The view with its hunks. A slide moves kinds alone: the signs of the view stay as they are. */
    private static final class View {
        static final int KEPT = 0, GOES = 1, COMES = 2;

        private final Row kinds = new Row(ROOM);
        private final Row signs = new Row(ROOM);
        private final Row tops = new Row(ROOM);
        private final Row ends = new Row(ROOM);
        private final Row plain = new Row(ROOM);

        void gather(Row old, Row fresh, Comparison comparison) {
            comparison.compare(old, fresh);
            kinds.emptyOut();
            signs.emptyOut();
            int all = old.size() + fresh.size();
            int i = 0;
            int j = 0;
            for (int lines = 0; lines < all && i + j < all; lines++) {
                int kind = comparison.step(old, fresh, i, j);
                kinds.add(kind);
                signs.add(kind == COMES ? fresh.at(j) : old.at(i));
                i += kind == COMES ? 0 : 1;
                j += kind == GOES ? 0 : 1;
            }
            findHunks();
        }

        private void findHunks() {
            tops.emptyOut();
            ends.emptyOut();
            plain.emptyOut();
            for (int place = 0; place < size(); place++) {
                if (inHunk(place) && !inHunk(place - 1)) {
                    tops.add(place);
                }
                if (inHunk(place) && !inHunk(place + 1)) {
                    ends.add(place + 1);
                }
            }
            for (int hunk = 0; hunk < hunks(); hunk++) {
                boolean mixed = linesOf(hunk, GOES) > 0 && linesOf(hunk, COMES) > 0;
                plain.add(mixed ? 0 : 1);
            }
        }

        void settle() {
            for (int hunk = 0; hunk < hunks(); hunk++) {
                if (isPlain(hunk)) {
                    moveTo(hunk, bestTop(hunk));
                }
            }
        }

        private void moveTo(int hunk, int newTop) {
            int kind = kinds.at(top(hunk));
            int newEnd = newTop + end(hunk) - top(hunk);
            for (int place = top(hunk); place < end(hunk); place++) {
                kinds.change(place, KEPT);
            }
            for (int place = newTop; place < newEnd; place++) {
                kinds.change(place, kind);
            }
            tops.change(hunk, newTop);
            ends.change(hunk, newEnd);
        }

        /** The place with the greatest worth that a hunk can reach, of several the lowest down. */
        private int bestTop(int hunk) {
            int length = end(hunk) - top(hunk);
            int last = top(hunk) + reach(hunk, true);
            int best = top(hunk) - reach(hunk, false);
            for (int place = best + 1; place <= last; place++) {
                if (worthAt(place, place + length) >= worthAt(best, best + length)) {
                    best = place;
                }
            }
            return best;
        }

        int size() {
            return kinds.size();
        }

        int kind(int place) {
            return kinds.at(place);
        }

        int sign(int place) {
            return signs.at(place);
        }

        int oldAhead(int place) {
            return place - linesWithin(0, place, COMES);
        }

        int newAhead(int place) {
            return place - linesWithin(0, place, GOES);
        }

        int linesOfKind(int kind) {
            return linesWithin(0, size(), kind);
        }

        private int linesWithin(int from, int to, int kind) {
            int lines = 0;
            for (int place = from; place < to; place++) {
                lines += kinds.at(place) == kind ? 1 : 0;
            }
            return lines;
        }

        int hunkOf(int place) {
            for (int hunk = 0; hunk < hunks(); hunk++) {
                if (top(hunk) <= place && place < end(hunk)) {
                    return hunk;
                }
            }
            return NOT_FOUND;
        }

        int longestKept() {
            int longest = 0;
            int row = 0;
            for (int place = 0; place < size(); place++) {
                row = inHunk(place) ? 0 : row + 1;
                longest = Math.max(longest, row);
            }
            return longest;
        }

        /** Beyond the view there is no hunk. */
        private boolean inHunk(int place) {
            return kinds.at(place) > KEPT;
        }

        int hunks() {
            return tops.size();
        }

        boolean has(int hunk) {
            return hunk >= 0 && hunk < hunks();
        }

        int top(int hunk) {
            return tops.at(hunk);
        }

        int end(int hunk) {
            return ends.at(hunk);
        }

        int linesOf(int hunk, int kind) {
            return linesWithin(top(hunk), end(hunk), kind);
        }

        boolean isPlain(int hunk) {
            return plain.at(hunk) == 1;
        }

        int plainHunks() {
            int number = 0;
            for (int hunk = 0; hunk < hunks(); hunk++) {
                number += isPlain(hunk) ? 1 : 0;
            }
            return number;
        }

        int slidingHunks() {
            int sliding = 0;
            for (int hunk = 0; hunk < hunks(); hunk++) {
                sliding += reach(hunk, false) + reach(hunk, true) > 0 ? 1 : 0;
            }
            return sliding;
        }

        int worthOfAll() {
            int sum = 0;
            for (int hunk = 0; hunk < hunks(); hunk++) {
                sum += worth(hunk);
            }
            return sum;
        }

        int worth(int hunk) {
            return worthAt(top(hunk), end(hunk));
        }

        int greatestWorth(int hunk) {
            int best = bestTop(hunk);
            return worthAt(best, best + end(hunk) - top(hunk));
        }

        private int worthAt(int top, int end) {
            int ahead = signs.at(top - 1);
            int last = signs.at(end - 1);
            int worth = ahead == BLANK || ahead == Row.NONE ? 4 : 0;
            worth += last == BLANK ? 2 : 0;
            worth += signs.at(top) == OPENING ? 1 : 0;
            worth += last == CLOSING ? 3 : 0;
            return worth;
        }

        /** By how many lines a hunk could slide, one after the other. */
        int reach(int hunk, boolean down) {
            if (!isPlain(hunk)) {
                return 0;
            }
            int way = down ? 1 : -1;
            int lines = 0;
            while (lines < size()
                    && barAt(top(hunk) + way * lines, end(hunk) + way * lines, down) == 0) {
                lines++;
            }
            return lines;
        }

        /** Why a hunk cannot slide by one, by the document's numbers; 0 if it can. */
        int hindrance(int hunk, boolean down) {
            return isPlain(hunk) ? barAt(top(hunk), end(hunk), down) : 1;
        }

        /** What bars a plain hunk that has come to a place from the next slide. */
        private int barAt(int top, int end, boolean down) {
            int beyond = signs.at(down ? end : top - 1);
            int mine = signs.at(down ? top : end - 1);
            if (beyond == Row.NONE) {
                return 2;
            }
            if (beyond != mine) {
                return 3;
            }
            return kinds.at(down ? end + 1 : top - 2) > KEPT ? 4 : 0;
        }

        /** How many kept lines the patch of a hunk has behind it, or ahead of it. */
        int around(int hunk, int most, boolean behind) {
            int free;
            if (behind) {
                free = (has(hunk + 1) ? top(hunk + 1) : size()) - end(hunk);
            } else {
                free = top(hunk) - (has(hunk - 1) ? end(hunk - 1) : 0);
            }
            return Math.min(most, free);
        }
    }

    /** Patches of a view, laid on a copy of a text. */
    private static final class Laying {
        // No patch is looked for farther than this from where a text could have it.
        private static final int FARTHEST = 4 * ROOM;

        private final Row text = new Row(ROOM);
        private final Row putOut = new Row(ROOM);
        private final Row putIn = new Row(ROOM);
        private final Row places = new Row(ROOM);
        private final Row lower = new Row(ROOM);
        private int laid = 0;
        private int longest = 0;
        private int shift = 0;
        private int growth = 0;
        private int first = 0;

        void layAll(View shown, Row third, int around, boolean backwards) {
            text.become(third);
            places.emptyOut();
            lower.emptyOut();
            laid = 0;
            longest = 0;
            shift = 0;
            growth = 0;
            first = 0;
            for (int hunk = 0; hunk < shown.hunks(); hunk++) {
                layOne(shown, hunk, around, backwards);
            }
        }

        int laid() {
            return laid;
        }

        /** The greatest length of the text behind one of the patches that are laid. */
        int longest() {
            return longest;
        }

        Row result() {
            return text;
        }

        int placeOf(int hunk) {
            return places.at(hunk);
        }

        int lowerOf(int hunk) {
            return lower.at(hunk);
        }

        private void layOne(View shown, int hunk, int around, boolean backwards) {
            int behind = shown.around(hunk, around, true);
            int start = shown.top(hunk) - shown.around(hunk, around, false);
            takeParts(shown, start, shown.end(hunk) + behind, backwards);
            int home = backwards ? shown.newAhead(start) : shown.oldAhead(start);
            int looked = home + growth + shift;
            int place = search(looked);
            places.add(place);
            lower.add(place - looked);
            if (place == NOT_FOUND) {
                return;
            }
            replaceAt(place);
            growth += putIn.size() - putOut.size();
            shift += place - looked;
            first = place + putIn.size() - behind;
            longest = Math.max(longest, text.size());
            laid++;
        }

        private void takeParts(View shown, int start, int end, boolean backwards) {
            int outgoing = backwards ? View.COMES : View.GOES;
            int incoming = backwards ? View.GOES : View.COMES;
            putOut.emptyOut();
            putIn.emptyOut();
            for (int place = start; place < end; place++) {
                if (shown.kind(place) != incoming) {
                    putOut.add(shown.sign(place));
                }
                if (shown.kind(place) != outgoing) {
                    putIn.add(shown.sign(place));
                }
            }
        }

        private int search(int looked) {
            for (int away = 0; away <= FARTHEST; away++) {
                if (fitsAt(looked - away)) {
                    return looked - away;
                }
                if (fitsAt(looked + away)) {
                    return looked + away;
                }
            }
            return NOT_FOUND;
        }

        private boolean fitsAt(int place) {
            if (place < first || place + putOut.size() > text.size()) {
                return false;
            }
            for (int i = 0; i < putOut.size(); i++) {
                if (putOut.at(i) != text.at(place + i)) {
                    return false;
                }
            }
            return true;
        }

        private void replaceAt(int place) {
            for (int i = 0; i < putOut.size(); i++) {
                text.putOut(place);
            }
            for (int i = 0; i < putIn.size(); i++) {
                text.putIn(place + i, putIn.at(i));
            }
        }
    }
}
