/** What the document promises, promise by promise: ordinary inputs, edges and wrong inputs. */
public final class PromisesTest {
    private static final int INVALID = -1, IMPOSSIBLE = -2, LIMIT = -3, NONE = -4;
    private static final int[] FAR = {Integer.MIN_VALUE, Integer.MIN_VALUE + 9, -1000, -1, 41, 1000, Integer.MAX_VALUE};
    private static final String SIGNS = "abcdef.{}";

    private static int wrong = 0;
    private static String promise = "";

    private static void due(String call, double got, double want) {
        if (got != want) {
            wrong++;
            System.out.println(promise + ": " + call + " answered " + got + ", due is " + want);
        }
    }

    private static void due(String call, String got, String want) {
        if (!got.equals(want)) {
            wrong++;
            System.out.println(promise + ": " + call + " answered " + got + ", due is " + want);
        }
    }

    private static void type(HunkSlides x, String text) {
        for (char c : text.toCharArray()) x.append(c);
    }

    private static void load(HunkSlides x, String text, int which) {
        x.clear();
        type(x, text);
        x.load(which);
    }

    private static HunkSlides of(String oldText, String newText, String third) {
        HunkSlides x = new HunkSlides();
        load(x, oldText, 0);
        load(x, newText, 1);
        load(x, third, 2);
        return x;
    }

    private static HunkSlides of(String oldText, String newText) {
        return of(oldText, newText, "");
    }

    private static String text(HunkSlides x, int which) {
        StringBuilder s = new StringBuilder();
        for (int i = 0; x.line(which, i) >= 0; i++) s.append(SIGNS.charAt(x.line(which, i)));
        return s.toString();
    }

    /** The view as text: a line kept as its sign, with - if it goes and + if it comes. */
    private static String view(HunkSlides x) {
        StringBuilder s = new StringBuilder();
        for (int i = 0; x.view(i, 0) >= 0; i++) {
            int kind = x.view(i, 0);
            s.append(kind == 0 ? "" : kind == 1 ? "-" : "+").append(SIGNS.charAt(x.view(i, 1)));
        }
        return s.toString();
    }

    private static String told(HunkSlides x, int what) {
        StringBuilder s = new StringBuilder();
        for (int i = 0; x.view(i, 0) >= 0; i++) {
            int n = x.view(i, what);
            s.append(n == NONE ? "." : n);
        }
        return s.toString();
    }

    /** Everything that a look can tell. */
    private static String all(HunkSlides x) {
        StringBuilder s = new StringBuilder(view(x));
        for (int t = 0; t < 3; t++) s.append('|').append(text(x, t));
        for (int w = 0; w < 18; w++) s.append(' ').append(x.count(w));
        return s.append(' ').append(x.fault()).toString();
    }

    private static void newObject() {
        HunkSlides x = new HunkSlides();
        for (int w = 0; w < 18; w++) due("count(" + w + ")", x.count(w), w == 14 ? 1 : 0);
        due("alike()", x.alike(), 1.0);
        due("distance(0)", x.distance(0), 0);
        due("distance(1)", x.distance(1), 0);
        due("fault()", x.fault(), NONE);
        due("least()", x.least(), IMPOSSIBLE);
        due("undo()", x.undo(), IMPOSSIBLE);
        due("restore()", x.restore(), IMPOSSIBLE);
        due("view(0, 0)", x.view(0, 0), NONE);
        due("hunk(0, 0)", x.hunk(0, 0), INVALID);
        due("line(2, 0)", x.line(2, 0), NONE);
        due("lay(false)", x.lay(false), 0);
        due("count(17)", x.count(17), 1);
    }

    private static void append() {
        HunkSlides x = new HunkSlides();
        due("append(32)", x.append(32), INVALID);
        due("append(127)", x.append(127), INVALID);
        due("append(33)", x.append(33), 1);
        due("append(126)", x.append(126), 2);
        for (int i = 3; i <= 40; i++) due("append(97)", x.append(97), i);
        due("append(97), full", x.append(97), LIMIT);
        due("append(32), full", x.append(32), INVALID);
        due("append(97 + 65536)", x.append(97 + 65536), INVALID);
        due("count(16)", x.count(16), 40);
        due("count(17)", x.count(17), 0);
    }

    private static void clear() {
        HunkSlides x = new HunkSlides();
        due("clear(), empty", x.clear(), 0);
        type(x, "ab!");
        due("clear()", x.clear(), 3);
        due("clear()", x.clear(), 0);
        due("fault()", x.fault(), NONE);
        due("count(17)", x.count(17), 0);
    }

    private static int faultOf(String pad) {
        HunkSlides x = new HunkSlides();
        type(x, pad);
        return x.fault();
    }

    private static void fault() {
        due("all signs", faultOf("abcdef.{}"), NONE);
        due("g", faultOf("abg"), 2);
        due("the first of two", faultOf("a!?"), 1);
        due("A", faultOf("A"), 0);
        due("|", faultOf("a{|}"), 2);
        due("~", faultOf("}~"), 1);
        due("14 signs", faultOf("abcdefabcdef.{"), NONE);
        due("15 signs", faultOf("abcdefabcdef.{}"), 14);
        due("no sign as the fifteenth", faultOf("abcdefabcdef.{!"), 14);
        due("no sign as the fourteenth", faultOf("abcdefabcdef.!}"), 13);
        due("no sign ahead of the fifteenth", faultOf("ab-defabcdef.{}a"), 2);
        due("no sign behind the fifteenth", faultOf("abcdefabcdef.{a!"), 14);
    }

    private static void load() {
        HunkSlides x = new HunkSlides();
        type(x, "a.{}");
        due("load(3)", x.load(3), INVALID);
        due("load(-1)", x.load(-1), INVALID);
        due("count(16)", x.count(16), 4);
        due("count(17)", x.count(17), 0);
        due("load(1)", x.load(1), 4);
        due("count(16)", x.count(16), 0);
        due("text 1", text(x, 1), "a.{}");
        due("count(17)", x.count(17), 1);
        due("load(1), empty pad", x.load(1), 0);
        due("text 1", text(x, 1), "");
        type(x, "ab!");
        due("load(0), fault", x.load(0), IMPOSSIBLE);
        due("load(7), fault", x.load(7), INVALID);
        due("count(16)", x.count(16), 3);
        due("count(17)", x.count(17), 2);
        x.clear();
        type(x, "abcdefabcdef.{");
        due("load(2), 14", x.load(2), 14);
        type(x, "abcdefabcdef.{}");
        due("load(2), 15", x.load(2), IMPOSSIBLE);
        due("text 2", text(x, 2), "abcdefabcdef.{");
        x.undo();
        due("text 2, undone", text(x, 2), "");
        due("the pad stays with undo", x.count(16), 15);
    }

    private static void edit() {
        HunkSlides x = new HunkSlides();
        due("edit(0, 0, 0)", x.edit(0, 0, 0), 1);
        due("edit(0, 1, 8)", x.edit(0, 1, 8), 2);
        due("edit(0, 0, 6)", x.edit(0, 0, 6), 3);
        due("text 0", text(x, 0), ".a}");
        due("edit(0, 1, 17)", x.edit(0, 1, 17), 3);
        due("text 0", text(x, 0), ".{}");
        due("edit(0, 2, 10)", x.edit(0, 2, 10), 3);
        due("edit(0, 0, 20)", x.edit(0, 0, 20), 2);
        due("text 0", text(x, 0), "{a");
        due("count(17)", x.count(17), 4);
        String before = all(x);
        int[][] bad = {{3, 0, 0}, {-1, 0, 0}, {0, -1, 0}, {0, 3, 0}, {0, 2, 10}, {0, 2, 20}, {0, 0, 9}, {0, 0, 19},
            {0, 0, 21}, {0, 0, -1}, {1, 0, 20}, {1, 0, 18}, {0, 0, Integer.MIN_VALUE}, {0, 0, Integer.MIN_VALUE + 9}};
        for (int[] b : bad) {
            due("edit(" + b[0] + ", " + b[1] + ", " + b[2] + ")", x.edit(b[0], b[1], b[2]), INVALID);
        }
        due("after errors", all(x), before);
        load(x, "abcdefabcdef.{", 2);
        before = all(x);
        due("edit(2, 0, 0), full", x.edit(2, 0, 0), LIMIT);
        due("edit(2, 14, 8), full", x.edit(2, 14, 8), LIMIT);
        due("edit(2, 15, 8), full", x.edit(2, 15, 8), INVALID);
        due("edit(2, 14, 9), full", x.edit(2, 14, 9), INVALID);
        due("after errors", all(x), before);
        due("edit(2, 13, 18), full", x.edit(2, 13, 18), 14);
        due("edit(2, 13, 20)", x.edit(2, 13, 20), 13);
        due("edit(2, 13, 0)", x.edit(2, 13, 0), 14);
        due("text 2", text(x, 2), "abcdefabcdef.a");
    }

    private static void swap() {
        HunkSlides x = of("ab", "abc", "{}");
        due("swap(0, 1)", x.swap(0, 1), 1);
        due("text 0", text(x, 0), "abc");
        due("text 1", text(x, 1), "ab");
        due("swap(2, 0)", x.swap(2, 0), 4);
        due("text 0", text(x, 0), "{}");
        due("text 2", text(x, 2), "abc");
        due("swap(1, 2)", x.swap(1, 2), 5);
        due("count(17)", x.count(17), 4);
        String before = all(x);
        due("swap(1, 1)", x.swap(1, 1), INVALID);
        due("swap(0, 3)", x.swap(0, 3), INVALID);
        due("swap(-1, 0)", x.swap(-1, 0), INVALID);
        due("swap(3, 3)", x.swap(3, 3), INVALID);
        due("after errors", all(x), before);
    }

    private static void set() {
        HunkSlides x = new HunkSlides();
        due("set(0, 3)", x.set(HunkSlides.AROUND, 3), 1);
        due("set(0, 0)", x.set(0, 0), 3);
        due("set(1, 1)", x.set(HunkSlides.SLIDE, 1), 0);
        due("set(1, 1)", x.set(1, 1), 1);
        due("count(14)", x.count(14), 0);
        due("count(15)", x.count(15), 1);
        due("count(17)", x.count(17), 4);
        String before = all(x);
        due("set(0, 4)", x.set(0, 4), INVALID);
        due("set(0, -1)", x.set(0, -1), INVALID);
        due("set(1, 2)", x.set(1, 2), INVALID);
        due("set(1, -1)", x.set(1, -1), INVALID);
        due("set(2, 0)", x.set(2, 0), INVALID);
        due("set(-1, 0)", x.set(-1, 0), INVALID);
        due("after errors", all(x), before);
        x.undo();
        due("a change to the same is a change", x.count(15), 1);
        x.undo();
        due("count(15)", x.count(15), 0);
    }

    private static void lay() {
        HunkSlides x = of("abcdef", "bc.def", "{abcdef");
        due("lay(false)", x.lay(false), 2);
        due("text 2", text(x, 2), "{bc.def");
        due("count(12)", x.count(12), 2);
        due("count(13)", x.count(13), 0);
        due("lay(false), again", x.lay(false), 0);
        due("count(13)", x.count(13), 2);
        due("lay(true)", x.lay(true), 2);
        due("text 2", text(x, 2), "{abcdef");
        due("count(12)", x.count(12), 4);
        due("undo()", x.undo(), 3);
        due("text 2", text(x, 2), "{bc.def");
        due("count(12), undone", x.count(12), 2);

        x = of("acb", "c", "acb");
        due("lines between two hunks are round both", x.lay(false), 2);
        due("text 2", text(x, 2), "c");
        x = of("acb", "c", "ba");
        x.set(0, 0);
        due("nowhere ahead of the patch laid last", x.lay(false), 1);
        due("text 2", text(x, 2), "b");
        due("count(13)", x.count(13), 1);
        x = of("ca", "c", "aca");
        x.set(0, 0);
        due("higher ahead of lower", x.lay(false), 1);
        due("text 2", text(x, 2), "ca");
        x = of("abcd", "abcde", "ab");
        x.set(0, 0);
        due("no lines: behind the last one", x.lay(false), 1);
        due("text 2", text(x, 2), "abe");
        x = of("ab", "ab", "c");
        due("no hunks", x.lay(true), 0);
        due("no hunks: a change", x.count(17), 4);
    }

    private static void layLimit() {
        HunkSlides x = of("cb", "ac", "cb............");
        x.set(0, 0);
        String before = all(x);
        due("over 14 by the first patch, 14 by the second", x.lay(false), LIMIT);
        due("after the error", all(x), before);
        due("ifLaid(1, false, 0), whatever the length", x.ifLaid(1, false, 0), 2);
        due("ifAround(0), whatever the length", x.ifAround(0), 2);
        x = of("bc", "ca", "bc............");
        x.set(0, 0);
        due("13 by the first patch, 14 by the second", x.lay(false), 2);
        due("text 2", text(x, 2), "ca............");
        x = of("", "a", "bbbbbbbbbbbbbb");
        due("15 lines", x.lay(false), LIMIT);
        due("left out backwards", x.lay(true), 0);
        x.edit(2, 0, 20);
        due("14 lines", x.lay(false), 1);
        due("text 2", text(x, 2), "abbbbbbbbbbbbb");
    }

    private static void line() {
        HunkSlides x = of("abcdef.{}", "}", "");
        for (int i = 0; i < 9; i++) due("line(0, " + i + ")", x.line(0, i), i);
        due("line(0, 9)", x.line(0, 9), NONE);
        due("line(1, 0)", x.line(1, 0), 8);
        due("line(2, 0)", x.line(2, 0), NONE);
        due("line(0, -1)", x.line(0, -1), INVALID);
        due("line(3, 0)", x.line(3, 0), INVALID);
        due("line(-1, 50)", x.line(-1, 50), INVALID);
        due("line(2, MAX)", x.line(2, Integer.MAX_VALUE), NONE);
    }

    private static void distance() {
        HunkSlides x = of("abcabba", "cbabac");
        due("distance(0)", x.distance(0), 5);
        due("distance(1)", x.distance(1), 5);
        due("distance(2)", x.distance(2), INVALID);
        due("distance(-1)", x.distance(-1), INVALID);
        x = of("aaaaaaaaaaaaaa", "bbbbbbbbbbbbbb");
        due("distance(0), all", x.distance(0), 28);
        due("distance(1), all", x.distance(1), 28);
        x = of("", "abc");
        due("distance(0), empty", x.distance(0), 3);
        due("distance(1), empty", x.distance(1), 3);
    }

    private static void viewLines() {
        HunkSlides x = of("ab", "ba");
        due("of equals the old line goes", view(x), "-ab+a");
        due("kinds", told(x, 0), "102");
        due("signs", told(x, 1), "010");
        due("old numbers", told(x, 2), "01.");
        due("new numbers", told(x, 3), ".01");
        due("hunks", told(x, 4), "0.1");
        due("old ahead of new", view(of("a", "b")), "-a+b");
        due("the first of the same", view(of("aaaa", "aa")), "aa-a-a");
        due("new ones that must come first", view(of("cb", "ac")), "+ac-b");
        due("view(3, 0)", x.view(3, 0), NONE);
        due("view(-1, 0)", x.view(-1, 0), INVALID);
        due("view(0, 5)", x.view(0, 5), INVALID);
        due("view(0, -1)", x.view(0, -1), INVALID);
        due("view(99, 5)", x.view(99, 5), INVALID);
    }

    private static void settledView() {
        HunkSlides x = of("ab.ab.", "ab.ab.ab.");
        x.edit(0, 0, 13);
        x.edit(1, 0, 13);
        due("as it is", view(x), "db.ab.+a+b+.");
        x.set(1, 1);
        due("the farthest down of the greatest worth", view(x), "db.ab.+a+b+.");
        x = of(".ab.ab", ".ab.ab.ab");
        due("as it is", view(x), ".ab.ab+.+a+b");
        due("worth here", x.hunk(0, 6), 0);
        due("worth best", x.hunk(0, 7), 6);
        x.set(1, 1);
        due("of two places above the lower", view(x), ".ab.+a+b+.ab");
        due("up", x.hunk(0, 4), 4);
        due("down", x.hunk(0, 5), 2);
        due("can go down", x.whyNot(0, true), 0);
        x = of("{a}", "{a}{a}");
        due("as it is", view(x), "{a}+{+a+}");
        x.set(1, 1);
        due("to the top", view(x), "+{+a+}{a}");
        x = of(".{b}", ".{b{b}");
        due("as it is", view(x), ".{b+{+b}");
        due("worth here", x.hunk(0, 6), 1);
        due("worth best", x.hunk(0, 7), 5);
        due("up", x.hunk(0, 4), 2);
        x.set(1, 1);
        due("behind the blank line", view(x), ".+{+b{b}");
        due("old numbers", told(x, 2), "0..123");
        due("new numbers", told(x, 3), "012345");
        due("hunks", told(x, 4), ".00...");
        due("down again", x.hunk(0, 5), 2);
        x.swap(0, 1);
        due("goes", view(x), ".-{-b{b}");
        due("old numbers", told(x, 2), "012345");
        due("new numbers", told(x, 3), "0..123");
    }

    private static void touching() {
        // The upper hunk stays at the top and keeps the lower one from its kept line.
        HunkSlides x = of("aa", "baba");
        due("as it is", view(x), "+ba+ba");
        due("up", x.hunk(1, 4), 0);
        x = of("da", "aadaa");
        due("as it is", view(x), "+a+ada+a");
        due("up", x.hunk(1, 4), 1);
        x = of("a", "baa");
        due("as it is", view(x), "+ba+a");
        due("no kept line between", x.whyNot(1, false), 4);
        x = of("ab", "aa");
        due("mixed", view(x), "a-b+a");
        due("mixed: no slide", x.whyNot(0, false), 1);
        due("mixed: no slide", x.hunk(0, 4), 0);
        x.set(1, 1);
        due("a mixed one is not settled", view(x), "a-b+a");
    }

    private static void hunk() {
        HunkSlides x = of("ab.ab.", "ab.ab.ab.");
        int[] want = {6, 0, 3, 1, 6, 0, 6, 6, 1, 0};
        for (int w = 0; w < 10; w++) due("hunk(0, " + w + ")", x.hunk(0, w), want[w]);
        x = of("abcd.f", "ad{.f");
        due("view", view(x), "a-b-cd+{.f");
        int[] first = {1, 2, 0, 1, 0, 0, 0, 0, 1, 1};
        for (int w = 0; w < 10; w++) due("hunk(0, " + w + ")", x.hunk(0, w), first[w]);
        int[] second = {4, 0, 1, 1, 0, 0, 1, 1, 1, 2};
        x.set(0, 2);
        for (int w = 0; w < 10; w++) due("hunk(1, " + w + ")", x.hunk(1, w), second[w]);
        due("hunk(2, 0)", x.hunk(2, 0), INVALID);
        due("hunk(-1, 0)", x.hunk(-1, 0), INVALID);
        due("hunk(0, 10)", x.hunk(0, 10), INVALID);
        due("hunk(0, -1)", x.hunk(0, -1), INVALID);
        x = of("a", "}.");
        int[] mixed = {0, 1, 2, 0, 0, 0, 6, 6, 0, 0};
        for (int w = 0; w < 10; w++) due("mixed hunk(0, " + w + ")", x.hunk(0, w), mixed[w]);
    }

    private static void worths() {
        due("none ahead", of("", "a").hunk(0, 6), 4);
        due("a line ahead", of("a", "ab").hunk(0, 6), 0);
        due("blank ahead", of(".", ".b").hunk(0, 6), 4);
        due("last blank", of("a", "ab.").hunk(0, 6), 2);
        due("first opening", of("a", "a{").hunk(0, 6), 1);
        due("last closing", of("a", "a}").hunk(0, 6), 3);
        due("opening and closing", of("", "{a}").hunk(0, 6), 8);
        due("first blank", of("a", "a.b").hunk(0, 6), 0);
        due("first closing", of("a", "a}b").hunk(0, 6), 0);
        due("last opening", of("a", "ab{").hunk(0, 6), 0);
    }

    private static void whyNot() {
        HunkSlides x = of("a", "b");
        due("no plain one, up", x.whyNot(0, false), 1);
        due("no plain one, down", x.whyNot(0, true), 1);
        x = of("ab", "abab");
        due("can", x.whyNot(0, false), 0);
        due("nothing beyond", x.whyNot(0, true), 2);
        x = of("cab", "cb");
        due("another line, up", x.whyNot(0, false), 3);
        due("another line, down", x.whyNot(0, true), 3);
        x = of("a", "baa");
        due("would touch, up", x.whyNot(1, false), 4);
        due("another line, though it would touch", x.whyNot(0, true), 3);
        due("nothing beyond", x.whyNot(0, false), 2);
        x = of("caeb", "ab");
        due("view", view(x), "-ca-eb");
        due("another one ahead of touching", x.whyNot(1, false), 3);
        due("whyNot(2, true)", x.whyNot(2, true), INVALID);
        due("whyNot(-1, false)", x.whyNot(-1, false), INVALID);
    }

    private static void count() {
        HunkSlides x = of("aab.c{", "ab..cd}", "ab");
        due("view", view(x), "a-ab.+.c-{+d+}");
        int[] want = {6, 7, 2, 9, 4, 2, 3, 3, 2, 2, 10, 2, 0, 0, 1, 0, 0, 3};
        for (int w = 0; w < 18; w++) due("count(" + w + ")", x.count(w), want[w]);
        due("count(18)", x.count(18), INVALID);
        due("count(-1)", x.count(-1), INVALID);
    }

    private static void alike() {
        due("alike", of("ab", "a").alike(), 2.0 / 3);
        due("alike, the same", of("ab", "ab").alike(), 1.0);
        due("alike, nothing", of("ab", "c").alike(), 0.0);
        due("alike, one empty", of("", "c").alike(), 0.0);
        due("alike, both empty", of("", "", "a").alike(), 1.0);
        due("alike", of("abcde", "abce").alike(), 8.0 / 9);
    }

    private static void ifLaid() {
        HunkSlides x = of("abcdef", "bc.def", "{abcdef");
        due("ifLaid(0, false, 0)", x.ifLaid(0, false, 0), 1);
        due("ifLaid(0, false, 1)", x.ifLaid(0, false, 1), 101);
        due("ifLaid(1, false, 0)", x.ifLaid(1, false, 0), 2);
        due("ifLaid(1, false, 1)", x.ifLaid(1, false, 1), 100);
        due("ifLaid(0, true, 0)", x.ifLaid(0, true, 0), 2);
        due("ifLaid(0, true, 1)", x.ifLaid(0, true, 1), 102);
        due("ifLaid(1, true, 0), left out", x.ifLaid(1, true, 0), NONE);
        due("ifLaid(1, true, 1), left out", x.ifLaid(1, true, 1), NONE);
        due("ifLaid(2, false, 0)", x.ifLaid(2, false, 0), INVALID);
        due("ifLaid(-1, false, 0)", x.ifLaid(-1, false, 0), INVALID);
        due("ifLaid(0, false, 2)", x.ifLaid(0, false, 2), INVALID);
        due("ifLaid(0, false, -1)", x.ifLaid(0, false, -1), INVALID);
        due("nothing is changed", text(x, 2), "{abcdef");
        x = of("ca", "c", "aca");
        x.set(0, 0);
        due("higher", x.ifLaid(0, false, 1), 99);
    }

    private static void ifAround() {
        HunkSlides x = of("abcdef", "abdef", "ecf");
        String before = all(x);
        due("ifAround(0)", x.ifAround(0), 1);
        due("ifAround(1)", x.ifAround(1), 0);
        due("ifAround(3)", x.ifAround(3), 0);
        due("ifAround(4)", x.ifAround(4), INVALID);
        due("ifAround(-1)", x.ifAround(-1), INVALID);
        due("nothing is changed", all(x), before);
    }

    private static void least() {
        due("least", of("abc", "ac").least(), 1);
        due("of several the lowest", of("fabf", "ab").least(), 0);
        due("all kept", of("abc", "abc").least(), 0);
        due("the last", of("abc", "ab").least(), 2);
        due("empty", of("", "ab").least(), IMPOSSIBLE);
    }

    private static void undo() {
        HunkSlides x = new HunkSlides();
        for (int i = 0; i < 6; i++) x.edit(0, i, i % 6);
        due("count(17)", x.count(17), 4);
        due("undo()", x.undo(), 3);
        due("text 0", text(x, 0), "abcde");
        due("undo()", x.undo(), 2);
        x.edit(1, 0, 8);
        due("count(17)", x.count(17), 3);
        due("undo()", x.undo(), 2);
        due("undo()", x.undo(), 1);
        due("undo()", x.undo(), 0);
        due("text 0", text(x, 0), "ab");
        due("undo()", x.undo(), IMPOSSIBLE);
        due("text 0", text(x, 0), "ab");
        type(x, "a!");
        x.set(0, 3);
        x.save();
        x.swap(0, 1);
        due("undo()", x.undo(), 1);
        due("text 0", text(x, 0), "ab");
        due("undo()", x.undo(), 0);
        due("count(14)", x.count(14), 1);
        due("the pad stays", x.count(16), 2);
        x.restore();
        due("the snapshot stays", x.count(14), 3);
    }

    private static void saveAndRestore() {
        HunkSlides x = of("ab", "a", "ab");
        x.set(1, 1);
        x.lay(false);
        due("save()", x.save(), 1);
        due("save() is no change", x.count(17), 4);
        String held = text(x, 2);
        x.set(0, 0);
        x.set(1, 0);
        x.lay(true);
        load(x, "abcd", 1);
        type(x, "a?");
        due("restore()", x.restore(), 1);
        due("text 1", text(x, 1), "a");
        due("text 2", text(x, 2), held);
        due("count(12)", x.count(12), 1);
        due("count(14)", x.count(14), 1);
        due("count(15)", x.count(15), 1);
        due("the pad stays", x.count(16), 2);
        due("count(17)", x.count(17), 4);
        due("undo()", x.undo(), 3);
        due("text 1", text(x, 1), "abcd");
        due("count(12)", x.count(12), 2);
        due("restore(), again", x.restore(), 1);
        x.edit(1, 0, 20);
        due("save(), in place of the other", x.save(), 2);
        x.edit(1, 0, 0);
        due("restore()", x.restore(), 2);
        due("text 1", text(x, 1), "");
    }

    /** No argument may make a call throw, and each of these is out of every range. */
    private static void farArguments() {
        HunkSlides x = of("ab.ab.", "ab.ab.ab.", "ab.");
        String before = all(x);
        for (int far : FAR) {
            if (far != 41) due("append(" + far + ")", x.append(far), INVALID);
            due("load", x.load(far), INVALID);
            due("edit", x.edit(far, 0, 0), INVALID);
            due("edit", x.edit(0, far, 0), INVALID);
            due("edit", x.edit(0, 0, far), INVALID);
            due("swap", x.swap(far, 0), INVALID);
            due("swap", x.swap(0, far), INVALID);
            due("set", x.set(far, 0), INVALID);
            due("set", x.set(0, far), INVALID);
            due("line", x.line(far, 0), INVALID);
            due("line", x.line(0, far), far < 0 ? INVALID : NONE);
            due("distance", x.distance(far), INVALID);
            due("view", x.view(far, 0), far < 0 ? INVALID : NONE);
            due("view", x.view(0, far), INVALID);
            due("hunk", x.hunk(far, 0), INVALID);
            due("hunk", x.hunk(0, far), INVALID);
            due("whyNot", x.whyNot(far, true), INVALID);
            due("count", x.count(far), INVALID);
            due("ifLaid", x.ifLaid(far, true, 0), INVALID);
            due("ifLaid", x.ifLaid(0, true, far), INVALID);
            due("ifAround", x.ifAround(far), INVALID);
        }
        due("after errors", all(x), before);
    }

    private static void constants() {
        due("INVALID_ARGUMENT", HunkSlides.INVALID_ARGUMENT, -1);
        due("NOT_POSSIBLE", HunkSlides.NOT_POSSIBLE, -2);
        due("LIMIT_REACHED", HunkSlides.LIMIT_REACHED, -3);
        due("NOT_FOUND", HunkSlides.NOT_FOUND, -4);
        due("AROUND", HunkSlides.AROUND, 0);
        due("SLIDE", HunkSlides.SLIDE, 1);
    }

    public static void main(String[] args) {
        promise = "constants"; constants();
        promise = "1, a new object"; newObject();
        promise = "2, append"; append();
        promise = "3, clear"; clear();
        promise = "4, fault"; fault();
        promise = "5, load"; load();
        promise = "6, edit"; edit();
        promise = "7, swap"; swap();
        promise = "8, set"; set();
        promise = "9, lay"; lay();
        promise = "9, lay: limit"; layLimit();
        promise = "10, line"; line();
        promise = "11, distance"; distance();
        promise = "12, view"; viewLines();
        promise = "12, view, settled"; settledView();
        promise = "13, hunk"; hunk();
        promise = "13, hunk: touching"; touching();
        promise = "13, hunk: worths"; worths();
        promise = "14, whyNot"; whyNot();
        promise = "15, count"; count();
        promise = "16, alike"; alike();
        promise = "17, ifLaid"; ifLaid();
        promise = "18, ifAround"; ifAround();
        promise = "19, least"; least();
        promise = "20, undo"; undo();
        promise = "21 and 22, save and restore"; saveAndRestore();
        promise = "far arguments"; farArguments();
        System.out.println(wrong == 0 ? "PromisesTest: all answers are as due" : "PromisesTest: " + wrong + " wrong");
        if (wrong != 0) System.exit(1);
    }
}
