/** The edges that the document names for promises 1 to 8: a new object, the pad, texts, settings. */
public final class TextEdgesTest {
    private static final String FOURTEEN = "abcdef.{}abcde";

    private static void newObject() {
        Checks.test("Promise 1: creates three empty texts", () -> {
            HunkSlides x = new HunkSlides();
            for (int t = 0; t < 3; t++) {
                Checks.due("count(" + t + ")", x.count(t), 0);
                Checks.due("line(" + t + ", 0)", x.line(t, 0), Checks.NONE);
            }
        });
        Checks.test("Promise 1: of two empty texts there is no line in the view", () -> {
            HunkSlides x = new HunkSlides();
            for (int w = 0; w < 5; w++) Checks.due("view(0, " + w + ")", x.view(0, w), Checks.NONE);
        });
        Checks.test("Promise 1: of two empty texts there is no hunk", () -> {
            HunkSlides x = new HunkSlides();
            Checks.due("hunk(0, w)", Checks.hunk(x, 0), "-1 -1 -1 -1 -1 -1 -1 -1 -1 -1");
            Checks.due("whyNot(0, false)", x.whyNot(0, false), Checks.INVALID);
            Checks.due("whyNot(0, true)", x.whyNot(0, true), Checks.INVALID);
            Checks.due("ifLaid(0, false, 0)", x.ifLaid(0, false, 0), Checks.INVALID);
            Checks.due("ifLaid(0, true, 1)", x.ifLaid(0, true, 1), Checks.INVALID);
        });
        Checks.test("Promise 1: all counts of a new object; AROUND is 1 and SLIDE 0 at first", () ->
            Checks.due("count(w)", Checks.row(18, new HunkSlides()::count), "0 0 0 0 0 0 0 0 0 0 0 0 0 0 1 0 0 0"));
        Checks.test("Promise 1: the pad is initially empty", () -> {
            HunkSlides x = new HunkSlides();
            Checks.due("fault()", x.fault(), Checks.NONE);
            Checks.due("load(0)", x.load(0), 0);
            Checks.due("clear()", x.clear(), 0);
        });
        Checks.test("Promise 1: no history and no snapshot", () -> {
            Checks.due("undo()", new HunkSlides().undo(), Checks.IMPOSSIBLE);
            Checks.due("restore()", new HunkSlides().restore(), Checks.IMPOSSIBLE);
        });
        Checks.test("Promise 1: two objects have nothing in common", () -> {
            HunkSlides other = new HunkSlides();
            HunkSlides x = Checks.of("ab", "b", "abc");
            x.set(0, 3);
            x.lay(false);
            x.save();
            Checks.type(x, "a!");
            Checks.due("looks at the other", Checks.looks(other), Checks.looks(new HunkSlides()));
            Checks.due("restore() of the other", other.restore(), Checks.IMPOSSIBLE);
        });
    }

    private static void append() {
        Checks.test("Promise 2: each code from 33 to 126 is a character", () -> {
            for (int code = 33; code <= 126; code++) {
                Checks.due("append(" + code + ")", new HunkSlides().append(code), 1);
            }
        });
        Checks.test("Promise 2: returns the length of the pad then, up to 40", () -> {
            HunkSlides x = new HunkSlides();
            for (int length = 1; length <= 40; length++) Checks.due("append(97)", x.append(97), length);
            Checks.due("count(16)", x.count(16), 40);
        });
        Checks.test("Promise 2: a pad that was full takes 40 characters again when it has been emptied", () -> {
            HunkSlides x = Checks.padded(Checks.times("a", 40));
            x.clear();
            for (int length = 1; length <= 40; length++) Checks.due("append(33)", x.append(33), length);
        });
        Checks.test("Promise 2: is no change", () -> {
            HunkSlides x = Checks.padded("ab");
            Checks.due("count(17)", x.count(17), 0);
            Checks.due("undo()", x.undo(), Checks.IMPOSSIBLE);
        });
    }

    private static void clear() {
        Checks.test("Promise 3: the empty pad had no length", () ->
            Checks.due("clear()", new HunkSlides().clear(), 0));
        Checks.test("Promise 3: the full pad had 40", () -> {
            HunkSlides x = Checks.padded(Checks.times("!", 40));
            Checks.due("clear()", x.clear(), 40);
            Checks.due("count(16)", x.count(16), 0);
            Checks.due("clear()", x.clear(), 0);
        });
        Checks.test("Promise 3: a pad of one character is emptied", () -> {
            HunkSlides x = Checks.padded("!");
            Checks.due("clear()", x.clear(), 1);
            Checks.due("fault()", x.fault(), Checks.NONE);
            Checks.due("append(97)", x.append(97), 1);
        });
        Checks.test("Promise 3: is no change, and the texts stay", () -> {
            HunkSlides x = Checks.of("ab", "a", "b");
            Checks.type(x, "ccc");
            Checks.due("clear()", x.clear(), 3);
            Checks.due("count(17)", x.count(17), 3);
            Checks.due("texts", Checks.texts(x), "ab|a|b");
        });
    }

    private static void faultAt(String pad, int due) {
        Checks.due("fault() of " + pad, Checks.padded(pad).fault(), due);
    }

    private static void fault() {
        Checks.test("Promise 4: the empty pad has no fault", () -> faultAt("", Checks.NONE));
        Checks.test("Promise 4: of all characters these nine are signs, and no other is", () -> {
            for (char c = 33; c <= 126; c++) {
                boolean sign = c >= 'a' && c <= 'f' || c == '.' || c == '{' || c == '}';
                faultAt(String.valueOf(c), sign ? Checks.NONE : 0);
            }
        });
        Checks.test("Promise 4: the first character that is no sign, of several", () -> {
            faultAt("!a!", 0);
            faultAt("a!!", 1);
            faultAt("abg}h", 2);
        });
        Checks.test("Promise 4: the last character that is no sign", () -> faultAt("ab!", 2));
        Checks.test("Promise 4: fourteen signs have no fault", () -> faultAt(FOURTEEN, Checks.NONE));
        Checks.test("Promise 4: the fourteenth character may be the fault", () -> {
            faultAt("abcdef.{}abcd!", 13);
            faultAt("abcdef.{}abcd!f", 13);
        });
        Checks.test("Promise 4: the fifteenth character is the fault, also if it is a sign", () ->
            faultAt(FOURTEEN + "a", 14));
        Checks.test("Promise 4: the fifteenth character is the fault, also if it is no sign", () ->
            faultAt(FOURTEEN + "!", 14));
        Checks.test("Promise 4: not a character behind the fifteenth", () -> {
            faultAt(FOURTEEN + "aa!", 14);
            faultAt(FOURTEEN + "aaa", 14);
        });
        Checks.test("Promise 4: a fault ahead of the fifteenth comes first", () -> faultAt("g" + FOURTEEN, 0));
        Checks.test("Promise 4: the full pad", () -> {
            faultAt(Checks.times("a", 40), 14);
            faultAt(Checks.times("a", 39) + "!", 14);
            faultAt(Checks.times("a", 13) + Checks.times("!", 27), 13);
        });
        Checks.test("Promise 4: looks at the pad alone, and leaves it", () -> {
            HunkSlides x = Checks.padded("ab!c");
            Checks.due("fault()", x.fault(), 2);
            Checks.due("fault()", x.fault(), 2);
            Checks.due("count(16)", x.count(16), 4);
        });
    }

    private static void load() {
        Checks.test("Promise 5: each text, and no other one", () -> {
            Checks.due("load(0)", Checks.texts(Checks.load(new HunkSlides(), "ab", 0)), "ab||");
            Checks.due("load(1)", Checks.texts(Checks.load(new HunkSlides(), "ab", 1)), "|ab|");
            Checks.due("load(2)", Checks.texts(Checks.load(new HunkSlides(), "ab", 2)), "||ab");
        });
        Checks.test("Promise 5: an empty pad makes an empty text", () -> {
            HunkSlides x = Checks.of("ab", "cd", "ef");
            Checks.due("load(1)", x.load(1), 0);
            Checks.due("texts", Checks.texts(x), "ab||ef");
        });
        Checks.test("Promise 5: a text of fourteen lines", () -> {
            HunkSlides x = Checks.padded(FOURTEEN);
            Checks.due("load(2)", x.load(2), 14);
            Checks.due("texts", Checks.texts(x), "||" + FOURTEEN);
        });
        Checks.test("Promise 5: a text of one line", () -> {
            HunkSlides x = Checks.padded("}");
            Checks.due("load(0)", x.load(0), 1);
            Checks.due("line(0, 0)", x.line(0, 0), 8);
        });
        Checks.test("Promise 5: empties the pad", () -> {
            HunkSlides x = Checks.padded("ab");
            x.load(0);
            Checks.due("count(16)", x.count(16), 0);
            Checks.due("load(1)", x.load(1), 0);
            Checks.due("texts", Checks.texts(x), "ab||");
        });
        Checks.test("Promise 5: nothing of the text before stays", () -> {
            HunkSlides x = Checks.load(new HunkSlides(), FOURTEEN, 0);
            Checks.load(x, "f", 0);
            Checks.due("texts", Checks.texts(x), "f||");
            Checks.due("line(0, 1)", x.line(0, 1), Checks.NONE);
        });
        Checks.test("Promise 5: is a change, also if nothing is different then", () -> {
            HunkSlides x = new HunkSlides();
            Checks.due("load(0)", x.load(0), 0);
            Checks.due("count(17)", x.count(17), 1);
            Checks.due("undo()", x.undo(), 0);
        });
        Checks.test("Promise 5: the fault gone, the pad can be loaded", () -> {
            HunkSlides x = Checks.padded("ab!");
            Checks.due("load(0)", x.load(0), Checks.IMPOSSIBLE);
            x.clear();
            Checks.type(x, "ab");
            Checks.due("load(0)", x.load(0), 2);
        });
    }

    private static void edited(String before, int line, int sign, String after) {
        HunkSlides x = Checks.load(new HunkSlides(), before, 1);
        Checks.due(before + ": edit(1, " + line + ", " + sign + ")", x.edit(1, line, sign), after.length());
        Checks.due(before + " then", Checks.texts(x), "|" + after + "|");
    }

    private static void edit() {
        Checks.test("Promise 6: each text, and no other one", () -> {
            for (int t = 0; t < 3; t++) {
                HunkSlides x = Checks.of("a", "b", "c");
                x.edit(t, 0, 20);
                Checks.due("edit(" + t + ", 0, 20)", Checks.texts(x), t == 0 ? "|b|c" : t == 1 ? "a||c" : "a|b|");
            }
        });
        Checks.test("Promise 6: 0 to 8 puts such a line in", () -> {
            for (int sign = 0; sign <= 8; sign++) edited("ab", 1, sign, "a" + Checks.SIGNS.charAt(sign) + "b");
        });
        Checks.test("Promise 6: 10 to 18 puts a line, 10 less, in place", () -> {
            for (int sign = 10; sign <= 18; sign++) edited("abc", 1, sign, "a" + Checks.SIGNS.charAt(sign - 10) + "c");
        });
        Checks.test("Promise 6: 20 puts a line out", () -> edited("abc", 1, 20, "ac"));
        Checks.test("Promise 6: to put one in also the number behind the last one", () -> edited("ab", 2, 7, "ab{"));
        Checks.test("Promise 6: the first line of an empty text", () -> edited("", 0, 8, "}"));
        Checks.test("Promise 6: ahead of the first line", () -> edited("ab", 0, 6, ".ab"));
        Checks.test("Promise 6: in place of the first line", () -> edited("abc", 0, 18, "}bc"));
        Checks.test("Promise 6: in place of the last line", () -> edited("abc", 2, 10, "aba"));
        Checks.test("Promise 6: the first line out", () -> edited("abc", 0, 20, "bc"));
        Checks.test("Promise 6: the last line out", () -> edited("abc", 2, 20, "ab"));
        Checks.test("Promise 6: the only line out", () -> edited("a", 0, 20, ""));
        Checks.test("Promise 6: the fourteenth line is put in at both ends", () -> {
            edited(Checks.times("a", 13), 0, 1, "b" + Checks.times("a", 13));
            edited(Checks.times("a", 13), 13, 1, Checks.times("a", 13) + "b");
        });
        Checks.test("Promise 6: in a full text a line is put in place of one, and out", () -> {
            edited(FOURTEEN, 13, 15, "abcdef.{}abcdf");
            edited(FOURTEEN, 0, 17, "{bcdef.{}abcde");
            edited(FOURTEEN, 13, 20, "abcdef.{}abcd");
            edited(FOURTEEN, 0, 20, "bcdef.{}abcde");
        });
        Checks.test("Promise 6: a full text takes a line again when one has been put out", () -> {
            HunkSlides x = Checks.load(new HunkSlides(), FOURTEEN, 2);
            Checks.due("edit(2, 0, 0)", x.edit(2, 0, 0), Checks.LIMIT);
            Checks.due("edit(2, 13, 20)", x.edit(2, 13, 20), 13);
            Checks.due("edit(2, 0, 0)", x.edit(2, 0, 0), 14);
            Checks.due("texts", Checks.texts(x), "||aabcdef.{}abcd");
        });
        Checks.test("Promise 6: is a change, also if the line is put in place of the same one", () -> {
            HunkSlides x = Checks.load(new HunkSlides(), "a", 0);
            Checks.due("edit(0, 0, 10)", x.edit(0, 0, 10), 1);
            Checks.due("count(17)", x.count(17), 2);
        });
        Checks.test("Promise 6: the pad stays", () -> {
            HunkSlides x = Checks.padded("ab!");
            x.edit(0, 0, 0);
            Checks.due("count(16)", x.count(16), 3);
        });
    }

    private static void swapped(int one, int other, int distance, String after) {
        HunkSlides x = Checks.of("abc", "bc", "}");
        Checks.due("swap(" + one + ", " + other + ")", x.swap(one, other), distance);
        Checks.due("texts", Checks.texts(x), after);
        Checks.due("count(17)", x.count(17), 4);
    }

    private static void swap() {
        Checks.test("Promise 7: each two texts, in both orders", () -> {
            swapped(0, 1, 1, "bc|abc|}");
            swapped(1, 0, 1, "bc|abc|}");
            swapped(0, 2, 3, "}|bc|abc");
            swapped(2, 0, 3, "}|bc|abc");
            swapped(1, 2, 4, "abc|}|bc");
            swapped(2, 1, 4, "abc|}|bc");
        });
        Checks.test("Promise 7: empty texts", () -> {
            HunkSlides x = Checks.of("ab", "", "");
            Checks.due("swap(0, 1)", x.swap(0, 1), 2);
            Checks.due("texts", Checks.texts(x), "|ab|");
            Checks.due("swap(0, 2)", x.swap(0, 2), 2);
            Checks.due("swap(2, 1)", x.swap(2, 1), 0);
            Checks.due("texts", Checks.texts(x), "||ab");
        });
        Checks.test("Promise 7: full texts", () -> {
            HunkSlides x = Checks.of(FOURTEEN, "f", Checks.times("{", 14));
            Checks.due("swap(1, 2)", x.swap(1, 2), 26);
            Checks.due("swap(0, 2)", x.swap(0, 2), 15);
            Checks.due("texts", Checks.texts(x), "f|{{{{{{{{{{{{{{|" + FOURTEEN);
        });
        Checks.test("Promise 7: is a change, also if both are the same", () -> {
            HunkSlides x = new HunkSlides();
            Checks.due("swap(1, 2)", x.swap(1, 2), 0);
            Checks.due("count(17)", x.count(17), 1);
        });
    }

    private static void set() {
        Checks.test("Promise 8: AROUND from 0 to 3, 1 at first; returns the value before", () -> {
            HunkSlides x = new HunkSlides();
            Checks.due("set(0, 0)", x.set(0, 0), 1);
            Checks.due("set(0, 1)", x.set(0, 1), 0);
            Checks.due("set(0, 2)", x.set(0, 2), 1);
            Checks.due("set(0, 3)", x.set(0, 3), 2);
            Checks.due("count(14)", x.count(14), 3);
            Checks.due("count(15)", x.count(15), 0);
        });
        Checks.test("Promise 8: SLIDE as 0 or 1, 0 at first; returns the value before", () -> {
            HunkSlides x = new HunkSlides();
            Checks.due("set(1, 1)", x.set(1, 1), 0);
            Checks.due("count(15)", x.count(15), 1);
            Checks.due("set(1, 0)", x.set(1, 0), 1);
            Checks.due("count(15)", x.count(15), 0);
            Checks.due("count(14)", x.count(14), 1);
        });
        Checks.test("Promise 8: is a change, also if the value is the same", () -> {
            HunkSlides x = new HunkSlides();
            Checks.due("set(0, 1)", x.set(0, 1), 1);
            Checks.due("count(17)", x.count(17), 1);
            Checks.due("set(1, 0)", x.set(1, 0), 0);
            Checks.due("count(17)", x.count(17), 2);
        });
    }

    public static void main(String[] args) {
        newObject();
        append();
        clear();
        fault();
        load();
        edit();
        swap();
        set();
        Checks.end("TextEdgesTest");
    }
}
