import java.util.ArrayList;
import java.util.HashMap;
import java.util.List;
import java.util.Map;

/**
 * Compares HunkSlides with a slow model that follows the document's words one by one (slides
 * move lines, not marks), over many runs of calls from a fixed row of numbers.
 */
public final class ModelTest {
    private static final int INVALID = -1, NOT_POSSIBLE = -2, LIMIT = -3, NOT_FOUND = -4;
    private static final String SIGNS = "abcdef.{}";
    private static final int RUNS = 6000;
    private static final int CALLS = 500;

    /** A line of the view. */
    private static final class Line {
        int kind;
        int sign;
        int oldNumber = NOT_FOUND;
        int newNumber = NOT_FOUND;

        Line(int kind, int sign) {
            this.kind = kind;
            this.sign = sign;
        }
    }

    private static final class Hunk {
        int top;
        int end;
        boolean plain;
    }

    private static final class Patch {
        List<Integer> outPart = new ArrayList<>();
        List<Integer> inPart = new ArrayList<>();
        int place;
        int behind;
        int looked;
        int found = NOT_FOUND;
    }

    private static final class Laid {
        List<Patch> patches = new ArrayList<>();
        List<Integer> text;
        int laid;
        boolean tooLong;
    }

    private static final class State {
        List<List<Integer>> texts = new ArrayList<>();
        int[] settings = {1, 0};
        int laid;
        int leftOut;

        State copy() {
            State c = new State();
            for (List<Integer> t : texts) c.texts.add(new ArrayList<>(t));
            c.settings = settings.clone();
            c.laid = laid;
            c.leftOut = leftOut;
            return c;
        }
    }

    /** The document's words. */
    private static final class Model {
        StringBuilder pad = new StringBuilder();
        State now = new State();
        State snapshot = null;
        List<State> history = new ArrayList<>();

        Model() {
            for (int i = 0; i < 3; i++) now.texts.add(new ArrayList<>());
        }

        static int kept(List<Integer> a, List<Integer> b, int i, int j, Map<Integer, Integer> memo) {
            if (i >= a.size() || j >= b.size()) return 0;
            Integer known = memo.get(i * 100 + j);
            if (known != null) return known;
            int best = Math.max(kept(a, b, i + 1, j, memo), kept(a, b, i, j + 1, memo));
            if (a.get(i).equals(b.get(j))) best = Math.max(best, 1 + kept(a, b, i + 1, j + 1, memo));
            memo.put(i * 100 + j, best);
            return best;
        }

        static List<Line> walk(List<Integer> a, List<Integer> b) {
            Map<Integer, Integer> memo = new HashMap<>();
            List<Line> view = new ArrayList<>();
            int i = 0, j = 0;
            while (i < a.size() || j < b.size()) {
                Line line;
                if (i < a.size() && j < b.size() && a.get(i).equals(b.get(j))) {
                    line = new Line(0, a.get(i));
                    line.oldNumber = i++;
                    line.newNumber = j++;
                } else if (i < a.size() && (j >= b.size()
                        || kept(a, b, i + 1, j, memo) >= kept(a, b, i, j + 1, memo))) {
                    line = new Line(1, a.get(i));
                    line.oldNumber = i++;
                } else {
                    line = new Line(2, b.get(j));
                    line.newNumber = j++;
                }
                view.add(line);
            }
            return view;
        }

        static List<Line> copyOf(List<Line> view) {
            List<Line> c = new ArrayList<>();
            for (Line l : view) {
                Line d = new Line(l.kind, l.sign);
                d.oldNumber = l.oldNumber;
                d.newNumber = l.newNumber;
                c.add(d);
            }
            return c;
        }

        static List<Hunk> hunks(List<Line> view) {
            List<Hunk> hunks = new ArrayList<>();
            Hunk open = null;
            for (int p = 0; p < view.size(); p++) {
                if (view.get(p).kind == 0) {
                    open = null;
                    continue;
                }
                if (open == null) {
                    open = new Hunk();
                    open.top = p;
                    hunks.add(open);
                }
                open.end = p + 1;
            }
            for (Hunk h : hunks) {
                int goes = 0;
                for (int p = h.top; p < h.end; p++) goes += view.get(p).kind == 1 ? 1 : 0;
                h.plain = goes == 0 || goes == h.end - h.top;
            }
            return hunks;
        }

        static int whyNot(List<Line> view, Hunk h, boolean down) {
            if (!h.plain) return 1;
            int beyond = down ? h.end : h.top - 1;
            if (beyond < 0 || beyond >= view.size()) return 2;
            if (view.get(beyond).kind != 0) throw new AssertionError("hunks touch");
            if (view.get(beyond).sign != view.get(down ? h.top : h.end - 1).sign) return 3;
            int next = down ? h.end + 1 : h.top - 2;
            if (next >= 0 && next < view.size() && view.get(next).kind != 0) return 4;
            return 0;
        }

        /** Slides a hunk by one, line by line as the document tells; the numbers move along. */
        static void slide(List<Line> view, Hunk h, boolean down) {
            int kind = view.get(h.top).kind;
            Line keptLine = view.remove(down ? h.end : h.top - 1);
            int first = down ? h.top : h.top - 1;
            Line leaving = view.remove(down ? first : h.end - 2);
            Line entering = new Line(kind, keptLine.sign);
            Line keptNow = new Line(0, leaving.sign);
            if (kind == 1) {
                entering.oldNumber = keptLine.oldNumber;
                keptNow.oldNumber = leaving.oldNumber;
                keptNow.newNumber = keptLine.newNumber;
            } else {
                entering.newNumber = keptLine.newNumber;
                keptNow.newNumber = leaving.newNumber;
                keptNow.oldNumber = keptLine.oldNumber;
            }
            int rest = h.end - h.top - 1;
            if (down) {
                view.add(first, keptNow);
                view.add(first + 1 + rest, entering);
            } else {
                view.add(first, entering);
                view.add(first + 1 + rest, keptNow);
            }
        }

        static int worth(List<Line> view, Hunk h) {
            int w = 0;
            if (h.top == 0 || view.get(h.top - 1).sign == 6) w += 4;
            if (view.get(h.end - 1).sign == 6) w += 2;
            if (view.get(h.top).sign == 7) w += 1;
            if (view.get(h.end - 1).sign == 8) w += 3;
            return w;
        }

        static int reach(List<Line> view, int number, boolean down) {
            List<Line> v = copyOf(view);
            int n = 0;
            while (whyNot(v, hunks(v).get(number), down) == 0) {
                slide(v, hunks(v).get(number), down);
                n++;
            }
            return n;
        }

        /** The view with the hunk at the best place that it can come to. */
        static List<Line> best(List<Line> view, int number) {
            List<Line> v = copyOf(view);
            while (whyNot(v, hunks(v).get(number), false) == 0) slide(v, hunks(v).get(number), false);
            List<Line> best = copyOf(v);
            while (whyNot(v, hunks(v).get(number), true) == 0) {
                slide(v, hunks(v).get(number), true);
                if (worth(v, hunks(v).get(number)) >= worth(best, hunks(best).get(number))) best = copyOf(v);
            }
            return best;
        }

        static void check(List<Line> view, List<Integer> a, List<Integer> b) {
            int i = 0, j = 0;
            for (Line l : view) {
                if (l.kind != 2 && (l.oldNumber != i || a.get(i++) != l.sign)) throw new AssertionError("old");
                if (l.kind != 1 && (l.newNumber != j || b.get(j++) != l.sign)) throw new AssertionError("new");
            }
            if (i != a.size() || j != b.size()) throw new AssertionError("lines lost");
        }

        List<Line> told() {
            List<Line> view = walk(now.texts.get(0), now.texts.get(1));
            if (now.settings[1] == 1) {
                int many = hunks(view).size();
                for (int h = 0; h < many; h++) {
                    if (hunks(view).get(h).plain) view = best(view, h);
                    if (hunks(view).size() != many) throw new AssertionError("hunks merged");
                }
            }
            check(view, now.texts.get(0), now.texts.get(1));
            return view;
        }

        static int ahead(List<Hunk> hunks, int number, int around) {
            int from = number == 0 ? 0 : hunks.get(number - 1).end;
            return Math.min(around, hunks.get(number).top - from);
        }

        static int behind(List<Line> view, List<Hunk> hunks, int number, int around) {
            int to = number == hunks.size() - 1 ? view.size() : hunks.get(number + 1).top;
            return Math.min(around, to - hunks.get(number).end);
        }

        Laid laying(int around, boolean backwards) {
            List<Line> view = told();
            List<Hunk> hunks = hunks(view);
            Laid r = new Laid();
            r.text = new ArrayList<>(now.texts.get(2));
            int grown = 0, shift = 0, floor = 0;
            for (int h = 0; h < hunks.size(); h++) {
                Patch p = new Patch();
                r.patches.add(p);
                p.behind = behind(view, hunks, h, around);
                int from = hunks.get(h).top - ahead(hunks, h, around);
                int to = hunks.get(h).end + p.behind;
                for (int q = 0; q < from; q++) p.place += view.get(q).kind == (backwards ? 1 : 2) ? 0 : 1;
                for (int q = from; q < to; q++) {
                    Line l = view.get(q);
                    if (l.kind == 0 || l.kind == (backwards ? 2 : 1)) p.outPart.add(l.sign);
                    if (l.kind == 0 || l.kind == (backwards ? 1 : 2)) p.inPart.add(l.sign);
                }
                p.looked = p.place + grown + shift;
                int bestAway = Integer.MAX_VALUE;
                for (int at = floor; at + p.outPart.size() <= r.text.size(); at++) {
                    if (!r.text.subList(at, at + p.outPart.size()).equals(p.outPart)) continue;
                    int away = Math.abs(at - p.looked);
                    if (away < bestAway) {
                        bestAway = away;
                        p.found = at;
                    }
                }
                if (p.found == NOT_FOUND) continue;
                for (int q = 0; q < p.outPart.size(); q++) r.text.remove(p.found);
                r.text.addAll(p.found, p.inPart);
                grown += p.inPart.size() - p.outPart.size();
                shift += p.found - p.looked;
                floor = p.found + p.inPart.size() - p.behind;
                r.laid++;
                if (r.text.size() > 14) r.tooLong = true;
            }
            return r;
        }

        int keptLines() {
            return kept(now.texts.get(0), now.texts.get(1), 0, 0, new HashMap<>());
        }

        int apart() {
            return now.texts.get(0).size() + now.texts.get(1).size() - 2 * keptLines();
        }

        void record() {
            history.add(now.copy());
            if (history.size() == 5) history.remove(0);
        }

        int append(int code) {
            if (code < 33 || code > 126) return INVALID;
            if (pad.length() == 40) return LIMIT;
            pad.append((char) code);
            return pad.length();
        }

        int clear() {
            int n = pad.length();
            pad.setLength(0);
            return n;
        }

        int fault() {
            for (int i = 0; i < Math.min(14, pad.length()); i++) {
                if (SIGNS.indexOf(pad.charAt(i)) < 0) return i;
            }
            return pad.length() > 14 ? 14 : NOT_FOUND;
        }

        int load(int text) {
            if (text < 0 || text > 2) return INVALID;
            if (fault() >= 0) return NOT_POSSIBLE;
            record();
            List<Integer> lines = new ArrayList<>();
            for (int i = 0; i < pad.length(); i++) lines.add(SIGNS.indexOf(pad.charAt(i)));
            now.texts.set(text, lines);
            pad.setLength(0);
            return lines.size();
        }

        int edit(int text, int line, int sign) {
            if (text < 0 || text > 2 || line < 0) return INVALID;
            List<Integer> lines = now.texts.get(text);
            if (sign >= 0 && sign <= 8) {
                if (line > lines.size()) return INVALID;
                if (lines.size() == 14) return LIMIT;
                record();
                now.texts.get(text).add(line, sign);
            } else if (sign >= 10 && sign <= 18) {
                if (line >= lines.size()) return INVALID;
                record();
                now.texts.get(text).set(line, sign - 10);
            } else if (sign == 20) {
                if (line >= lines.size()) return INVALID;
                record();
                now.texts.get(text).remove(line);
            } else {
                return INVALID;
            }
            return now.texts.get(text).size();
        }

        int swap(int one, int other) {
            if (one < 0 || one > 2 || other < 0 || other > 2 || one == other) return INVALID;
            record();
            List<Integer> t = now.texts.get(one);
            now.texts.set(one, now.texts.get(other));
            now.texts.set(other, t);
            return apart();
        }

        int set(int what, int value) {
            if (what < 0 || what > 1 || value < 0 || value > (what == 0 ? 3 : 1)) return INVALID;
            record();
            int before = now.settings[what];
            now.settings[what] = value;
            return before;
        }

        int lay(boolean backwards) {
            Laid r = laying(now.settings[0], backwards);
            if (r.tooLong) return LIMIT;
            record();
            now.texts.set(2, r.text);
            now.laid += r.laid;
            now.leftOut += r.patches.size() - r.laid;
            return r.laid;
        }

        int line(int text, int line) {
            if (text < 0 || text > 2 || line < 0) return INVALID;
            return line < now.texts.get(text).size() ? now.texts.get(text).get(line) : NOT_FOUND;
        }

        int distance(int way) {
            return way == 0 || way == 1 ? apart() : INVALID;
        }

        int view(int place, int what) {
            if (place < 0 || what < 0 || what > 4) return INVALID;
            List<Line> view = told();
            if (place >= view.size()) return NOT_FOUND;
            Line l = view.get(place);
            if (what == 4) {
                List<Hunk> hunks = hunks(view);
                for (int h = 0; h < hunks.size(); h++) {
                    if (place >= hunks.get(h).top && place < hunks.get(h).end) return h;
                }
                return NOT_FOUND;
            }
            return what == 0 ? l.kind : what == 1 ? l.sign : what == 2 ? l.oldNumber : l.newNumber;
        }

        int hunk(int number, int what) {
            List<Line> view = told();
            List<Hunk> hunks = hunks(view);
            if (number < 0 || number >= hunks.size()) return INVALID;
            Hunk h = hunks.get(number);
            int goes = 0;
            for (int p = h.top; p < h.end; p++) goes += view.get(p).kind == 1 ? 1 : 0;
            switch (what) {
                case 0: return h.top;
                case 1: return goes;
                case 2: return h.end - h.top - goes;
                case 3: return h.plain ? 1 : 0;
                case 4: return reach(view, number, false);
                case 5: return reach(view, number, true);
                case 6: return worth(view, h);
                case 7: {
                    List<Line> b = best(view, number);
                    return worth(b, hunks(b).get(number));
                }
                case 8: return ahead(hunks, number, now.settings[0]);
                case 9: return behind(view, hunks, number, now.settings[0]);
                default: return INVALID;
            }
        }

        int whyNot(int number, boolean down) {
            List<Line> view = told();
            List<Hunk> hunks = hunks(view);
            return number < 0 || number >= hunks.size() ? INVALID : whyNot(view, hunks.get(number), down);
        }

        int count(int what) {
            if (what < 0 || what > 17) return INVALID;
            if (what <= 2) return now.texts.get(what).size();
            List<Line> view = told();
            List<Hunk> hunks = hunks(view);
            int sum = 0, row = 0, longest = 0, plain = 0, sliding = 0;
            int[] kinds = new int[3];
            for (Line l : view) {
                kinds[l.kind]++;
                row = l.kind == 0 ? row + 1 : 0;
                longest = Math.max(longest, row);
            }
            for (Hunk h : hunks) {
                sum += worth(view, h);
                if (h.plain) plain++;
                if (whyNot(view, h, false) == 0 || whyNot(view, h, true) == 0) sliding++;
            }
            int[] told = {0, 0, 0, view.size(), kinds[0], kinds[1], kinds[2], hunks.size(), plain, sliding, sum,
                longest, now.laid, now.leftOut, now.settings[0], now.settings[1], pad.length(), history.size()};
            return told[what];
        }

        double alike() {
            int lines = now.texts.get(0).size() + now.texts.get(1).size();
            return lines == 0 ? 1.0 : 2.0 * keptLines() / lines;
        }

        int ifLaid(int number, boolean backwards, int what) {
            if (number < 0 || number >= hunks(told()).size() || what < 0 || what > 1) return INVALID;
            Patch p = laying(now.settings[0], backwards).patches.get(number);
            if (p.found == NOT_FOUND) return NOT_FOUND;
            return what == 0 ? p.found : p.found - p.looked + 100;
        }

        int ifAround(int around) {
            return around < 0 || around > 3 ? INVALID : laying(around, false).laid;
        }

        int least() {
            List<Integer> old = now.texts.get(0);
            if (old.isEmpty()) return NOT_POSSIBLE;
            int best = -1, bestApart = Integer.MAX_VALUE;
            for (int i = 0; i < old.size(); i++) {
                List<Integer> rest = new ArrayList<>(old);
                rest.remove(i);
                int apart = rest.size() + now.texts.get(1).size()
                    - 2 * kept(rest, now.texts.get(1), 0, 0, new HashMap<>());
                if (apart < bestApart) {
                    bestApart = apart;
                    best = i;
                }
            }
            return best;
        }

        int undo() {
            if (history.isEmpty()) return NOT_POSSIBLE;
            now = history.remove(history.size() - 1);
            return history.size();
        }

        int save() {
            snapshot = now.copy();
            return apart();
        }

        int restore() {
            if (snapshot == null) return NOT_POSSIBLE;
            record();
            now = snapshot.copy();
            return apart();
        }
    }

    private static long seed;

    private static int next(int below) {
        seed = seed * 6364136223846793005L + 1442695040888963407L;
        return (int) ((seed >>> 33) % below);
    }

    private static HunkSlides real;
    private static Model model;
    private static final StringBuilder told = new StringBuilder();
    private static int wrong = 0;
    private static int calls;
    private static final Map<String, Integer> seen = new HashMap<>();

    private static void same(String call, double got, double want) {
        calls++;
        told.append(call).append(" = ").append(got).append('\n');
        String name = call.substring(0, call.indexOf('('));
        seen.merge(want < 0 ? name + " " + (int) want : name, 1, Integer::sum);
        if (got != want) {
            wrong++;
            if (wrong == 1) System.out.println(told);
            if (wrong < 20) System.out.println(call + " answered " + got + ", due is " + want);
        }
    }

    private static void append(int code) {
        same("append(" + code + ")", real.append(code), model.append(code));
    }

    private static void type(List<Integer> lines, int text) {
        same("clear()", real.clear(), model.clear());
        for (int sign : lines) append(SIGNS.charAt(sign));
        same("load(" + text + ")", real.load(text), model.load(text));
    }

    private static List<Integer> randomText(int signs, int most) {
        List<Integer> lines = new ArrayList<>();
        int many = next(most + 1);
        for (int i = 0; i < many; i++) lines.add(someSign(signs));
        return lines;
    }

    private static int someSign(int signs) {
        int sign = next(signs + 3);
        return sign < signs ? sign : 6 + sign - signs;
    }

    /** A text with some lines put in and out, so that hunks and patches have lines in common. */
    private static List<Integer> changed(List<Integer> lines, int signs, int changes) {
        List<Integer> c = new ArrayList<>(lines);
        for (int i = 0; i < changes; i++) {
            int at = next(c.size() + 1);
            if (next(2) == 0 && c.size() < 14) {
                int many = 1 + next(3);
                for (int k = 0; k < many && c.size() < 14; k++) {
                    c.add(at, at < c.size() && next(2) == 0 ? c.get(Math.min(c.size() - 1, at + k)) : someSign(signs));
                }
            } else if (at < c.size()) {
                c.remove(at);
            }
        }
        return c;
    }

    private static void typeTexts() {
        int signs = 1 + next(6);
        List<Integer> base = randomText(signs, 14);
        type(base, 0);
        type(changed(base, signs, next(6)), 1);
        type(changed(base, signs, next(5)), 2);
    }

    private static int loose(int low, int high) {
        return next(25) == 0 ? (next(2) == 0 ? low - 1 - next(3) : high + 1 + next(3)) : low + next(high - low + 1);
    }

    private static void padCall() {
        int c = next(12) == 0 ? loose(33, 126) : SIGNS.charAt(next(9));
        switch (next(12)) {
            case 0: same("clear()", real.clear(), model.clear()); break;
            case 1: same("fault()", real.fault(), model.fault()); break;
            case 2: for (int i = next(18); i > 0; i--) append(SIGNS.charAt(next(9))); break;
            default: append(c);
        }
    }

    private static void changeCall() {
        int a = loose(0, 2), b = loose(0, 2), line = next(17) - 1, sign = next(23) - 1;
        boolean back = next(2) == 0;
        switch (next(9)) {
            case 0: same("load(" + a + ")", real.load(a), model.load(a)); break;
            case 1: case 2: case 3:
                same("edit(" + a + ", " + line + ", " + sign + ")", real.edit(a, line, sign), model.edit(a, line, sign));
                break;
            case 4: same("swap(" + a + ", " + b + ")", real.swap(a, b), model.swap(a, b)); break;
            case 5: {
                int what = loose(0, 1), value = loose(0, next(2) == 0 ? 1 : 3);
                same("set(" + what + ", " + value + ")", real.set(what, value), model.set(what, value));
                break;
            }
            case 6: same("lay(" + back + ")", real.lay(back), model.lay(back)); break;
            case 7: same("restore()", real.restore(), model.restore()); break;
            default: typeTexts();
        }
    }

    private static void lookCall() {
        int a = loose(0, 2), place = next(24) - 1, h = next(6) - 1, line = next(16) - 1;
        boolean way = next(2) == 0;
        int w;
        switch (next(11)) {
            case 0: same("line(" + a + ", " + line + ")", real.line(a, line), model.line(a, line)); break;
            case 1: w = loose(0, 1); same("distance(" + w + ")", real.distance(w), model.distance(w)); break;
            case 2: case 3:
                w = loose(0, 4);
                same("view(" + place + ", " + w + ")", real.view(place, w), model.view(place, w));
                break;
            case 4: case 5:
                w = loose(0, 9);
                same("hunk(" + h + ", " + w + ")", real.hunk(h, w), model.hunk(h, w));
                break;
            case 6: same("whyNot(" + h + ", " + way + ")", real.whyNot(h, way), model.whyNot(h, way)); break;
            case 7: w = loose(0, 17); same("count(" + w + ")", real.count(w), model.count(w)); break;
            case 8: same("alike()", real.alike(), model.alike()); break;
            case 9:
                w = loose(0, 1);
                same("ifLaid(" + h + ", " + way + ", " + w + ")", real.ifLaid(h, way, w), model.ifLaid(h, way, w));
                break;
            default:
                if (next(2) == 0) {
                    w = loose(0, 3);
                    same("ifAround(" + w + ")", real.ifAround(w), model.ifAround(w));
                } else {
                    same("least()", real.least(), model.least());
                }
        }
    }

    private static void lookAtAll() {
        int lines = model.count(3), hunks = model.count(7);
        for (int w = 0; w < 18; w++) same("count(" + w + ")", real.count(w), model.count(w));
        for (int p = 0; p <= lines; p++) {
            for (int w = 0; w < 5; w++) same("view(" + p + ", " + w + ")", real.view(p, w), model.view(p, w));
        }
        for (int h = 0; h <= hunks; h++) {
            for (int w = 0; w < 10; w++) same("hunk(" + h + ", " + w + ")", real.hunk(h, w), model.hunk(h, w));
            same("whyNot(" + h + ", false)", real.whyNot(h, false), model.whyNot(h, false));
            same("whyNot(" + h + ", true)", real.whyNot(h, true), model.whyNot(h, true));
            same("ifLaid(" + h + ", true, 1)", real.ifLaid(h, true, 1), model.ifLaid(h, true, 1));
            same("ifLaid(" + h + ", false, 1)", real.ifLaid(h, false, 1), model.ifLaid(h, false, 1));
        }
        for (int t = 0; t < 3; t++) {
            for (int l = 0; l < 14; l++) same("line(" + t + ", " + l + ")", real.line(t, l), model.line(t, l));
        }
    }

    private static void oneRun() {
        real = new HunkSlides();
        model = new Model();
        told.setLength(0);
        calls = 0;
        if (next(4) > 0) {
            typeTexts();
        }
        if (next(2) == 0) {
            same("set(1, 1)", real.set(1, 1), model.set(1, 1));
        }
        if (next(3) == 0) {
            lookAtAll();
        }
        while (calls < CALLS - 100) {
            int kind = next(20);
            if (kind < 2) {
                padCall();
            } else if (kind < 6) {
                changeCall();
            } else if (kind == 6) {
                same("undo()", real.undo(), model.undo());
            } else if (kind == 7 && next(2) == 0) {
                same("save()", real.save(), model.save());
            } else {
                lookCall();
            }
        }
    }

    public static void main(String[] args) {
        for (int run = 0; run < RUNS && wrong == 0; run++) {
            seed = 77 + 1000003L * run;
            oneRun();
        }
        if (args.length > 0) System.out.println(new java.util.TreeMap<>(seen));
        System.out.println(wrong == 0 ? "ModelTest: all answers are as due" : "ModelTest: " + wrong + " wrong");
        if (wrong != 0) System.exit(1);
    }
}
