/** The edges that the document names for promises 10 to 16, and of the view and its hunks. */
public final class LookEdgesTest {
    private static final String A14 = Checks.times("a", 14);
    private static final String B14 = Checks.times("b", 14);

    // No two texts of 14 lines have more hunks: nine lines are kept, and ten go or come alone.
    private static final String TEN_OLD = "{ab{cd{ef{ab{c";
    private static final String TEN_NEW = "a}bc}de}fa}bc}";
    private static final String TEN_VIEW = "-{a+}b-{c+}d-{e+}f-{a+}b-{c+}";

    private static void viewed(String oldText, String newText, String view) {
        Checks.due("view of " + oldText + " and " + newText, Checks.view(Checks.of(oldText, newText)), view);
    }

    private static void line() {
        Checks.test("Promise 10: lines are numbered from 0, up to the last one", () -> {
            HunkSlides x = Checks.load(new HunkSlides(), "abcdef.{}", 1);
            Checks.due("line(1, i)", Checks.row(9, i -> x.line(1, i)), "0 1 2 3 4 5 6 7 8");
        });
        Checks.test("Promise 10: NOT_FOUND if there are not so many", () -> {
            HunkSlides x = Checks.load(new HunkSlides(), "ab", 2);
            Checks.due("line(2, 1)", x.line(2, 1), 1);
            Checks.due("line(2, 2)", x.line(2, 2), Checks.NONE);
            Checks.due("line(2, 14)", x.line(2, 14), Checks.NONE);
            Checks.due("line(2, MAX)", x.line(2, Checks.MAX), Checks.NONE);
        });
        Checks.test("Promise 10: the empty text has no line 0", () ->
            Checks.due("line(0, 0)", Checks.of("", "a", "a").line(0, 0), Checks.NONE));
        Checks.test("Promise 10: the full text has a line 13, and none behind it", () -> {
            HunkSlides x = Checks.load(new HunkSlides(), Checks.times("a", 13) + "}", 0);
            Checks.due("line(0, 13)", x.line(0, 13), 8);
            Checks.due("line(0, 14)", x.line(0, 14), Checks.NONE);
        });
    }

    private static void apart(String oldText, String newText, int due) {
        HunkSlides x = Checks.of(oldText, newText);
        Checks.due("distance(0) of " + oldText + " and " + newText, x.distance(0), due);
        Checks.due("distance(1) of " + oldText + " and " + newText, x.distance(1), due);
        Checks.due("lines that go and come", x.count(5) + x.count(6), due);
    }

    private static void distance() {
        Checks.test("Promise 11: both texts empty", () -> apart("", "", 0));
        Checks.test("Promise 11: one text empty", () -> {
            apart("", "a", 1);
            apart("a", "", 1);
            apart("", A14, 14);
            apart(A14, "", 14);
        });
        Checks.test("Promise 11: both texts full and the same", () -> apart(A14, A14, 0));
        Checks.test("Promise 11: both texts full, no line kept", () -> apart(A14, B14, 28));
        Checks.test("Promise 11: full texts with one line kept", () -> {
            apart("c" + Checks.times("a", 13), Checks.times("b", 13) + "c", 26);
            apart(Checks.times("a", 13) + "c", "c" + Checks.times("b", 13), 26);
        });
        Checks.test("Promise 11: lines kept in this order, not only side by side", () -> {
            apart("abcabba", "cbabac", 5);
            apart("abcd", "a.b.c.d", 3);
            apart("abc", "cba", 4);
        });
        Checks.test("Promise 11: the same for both ways, for all texts of up to 5 lines of two kinds", () -> {
            for (int i = 1; i < 64; i++) {
                HunkSlides x = Checks.load(new HunkSlides(), ofBits(i), 0);
                for (int j = 1; j < 64; j++) {
                    Checks.load(x, ofBits(j), 1);
                    if (x.distance(0) != x.distance(1)) Checks.due("distance(1)", x.distance(1), x.distance(0));
                    if (j % 16 == 0) x = Checks.load(new HunkSlides(), ofBits(i), 0);
                }
            }
        });
        Checks.test("Promise 11: the third text and the settings have no part in it", () -> {
            HunkSlides x = Checks.of("ab", "bc", "ab");
            x.set(1, 1);
            Checks.due("distance(0)", x.distance(0), 2);
            Checks.due("distance(1)", x.distance(1), 2);
        });
    }

    /** The bits of a number, but for the highest one, as lines. */
    private static String ofBits(int number) {
        return Integer.toBinaryString(number).substring(1).replace('0', 'a').replace('1', 'b');
    }

    private static void viewOrder() {
        Checks.test("Promise 12, Terms: the same lines are both kept", () -> viewed("ab.", "ab.", "ab."));
        Checks.test("Promise 12, Terms: the same lines are kept at once, not later ones", () -> {
            viewed("aaaa", "aa", "aa-a-a");
            viewed("aa", "aaaa", "aa+a+a");
        });
        Checks.test("Promise 12, Terms: the old line goes if the new text has none left", () -> {
            viewed("ab", "", "-a-b");
            viewed("cab", "c", "c-a-b");
        });
        Checks.test("Promise 12, Terms: the new line comes if the old text has none left", () -> {
            viewed("", "ab", "+a+b");
            viewed("c", "cab", "c+a+b");
        });
        Checks.test("Promise 12, Terms: of equals the old line goes", () -> {
            viewed("a", "b", "-a+b");
            viewed("ab", "ba", "-ab+a");
            viewed("ab", "cd", "-a-b+c+d");
        });
        Checks.test("Promise 12, Terms: the new line comes if one line more can be kept then", () -> {
            viewed("cb", "ac", "+ac-b");
            viewed("acb", "cba", "-acb+a");
            viewed("ab", "bab", "+bab");
        });
        Checks.test("Promise 12, Terms: the old line goes if one line more can be kept then", () ->
            viewed("bab", "ab", "-bab"));
    }

    private static void viewEnds() {
        Checks.test("Promise 12: the view of two empty texts has no line", () ->
            Checks.due("view(0, 0)", Checks.of("", "", "a").view(0, 0), Checks.NONE));
        Checks.test("Promise 12: NOT_FOUND if the view has not so many lines", () -> {
            HunkSlides x = Checks.of("ab", "bc");
            for (int w = 0; w < 5; w++) {
                Checks.due("view(3, " + w + ")", x.view(3, w), Checks.NONE);
                Checks.due("view(MAX, " + w + ")", x.view(Checks.MAX, w), Checks.NONE);
            }
        });
        Checks.test("Promise 12: the longest view has 28 lines", () -> {
            HunkSlides x = Checks.of(A14, B14);
            Checks.due("view(0, w)", Checks.row(5, w -> x.view(0, w)), "1 0 0 -4 0");
            Checks.due("view(13, w)", Checks.row(5, w -> x.view(13, w)), "1 0 13 -4 0");
            Checks.due("view(14, w)", Checks.row(5, w -> x.view(14, w)), "2 1 -4 0 0");
            Checks.due("view(27, w)", Checks.row(5, w -> x.view(27, w)), "2 1 -4 13 0");
            Checks.due("view(28, w)", Checks.row(5, w -> x.view(28, w)), "-4 -4 -4 -4 -4");
        });
        Checks.test("Promise 12: a full text is left behind before the other one", () -> {
            String a12 = Checks.times("a", 12);
            viewed(a12 + "bb", "bb" + a12, "+b+b" + a12 + "-b-b");
            viewed("bb" + a12, a12 + "bb", "-b-b" + a12 + "+b+b");
        });
        Checks.test("Promise 12: full texts that are the same", () -> {
            HunkSlides x = Checks.of(A14, A14);
            Checks.due("view(13, w)", Checks.row(5, w -> x.view(13, w)), "0 0 13 13 -4");
            Checks.due("view(14, w)", Checks.row(5, w -> x.view(14, w)), "-4 -4 -4 -4 -4");
        });
        Checks.test("Promise 12: the number in the old text, NOT_FOUND if it comes; in the new one, if it goes", () -> {
            HunkSlides x = Checks.of("ab.", "b.{");
            Checks.due("view", Checks.view(x), "-ab.+{");
            Checks.due("old numbers", Checks.told(x, 2), "0 1 2 .");
            Checks.due("new numbers", Checks.told(x, 3), ". 0 1 2");
        });
        Checks.test("Promise 12: its hunk, NOT_FOUND for a kept line", () -> {
            Checks.due("hunks", Checks.told(Checks.of("ab.", "b.{"), 4), "0 . . 1");
            Checks.due("hunks", Checks.told(Checks.of("ab", "ab"), 4), ". .");
            Checks.due("hunks", Checks.told(Checks.of("acb", ".c"), 4), "0 0 . 1");
        });
        Checks.test("Promise 12: the signs of all nine kinds of lines", () ->
            Checks.due("signs", Checks.told(Checks.of("abcdef.{}", "abcdef.{}"), 1), "0 1 2 3 4 5 6 7 8"));
        Checks.test("Promise 12: ten hunks", () -> {
            HunkSlides x = Checks.of(TEN_OLD, TEN_NEW);
            Checks.due("view", Checks.view(x), TEN_VIEW);
            Checks.due("hunks", Checks.told(x, 4), "0 . 1 . 2 . 3 . 4 . 5 . 6 . 7 . 8 . 9");
            Checks.due("old numbers", Checks.told(x, 2), "0 1 . 2 3 4 . 5 6 7 . 8 9 10 . 11 12 13 .");
            Checks.due("new numbers", Checks.told(x, 3), ". 0 1 2 . 3 4 5 . 6 7 8 . 9 10 11 . 12 13");
        });
    }

    private static void hunkNumbers() {
        Checks.test("Promise 13, Terms: a hunk is as long as possible, of both kinds, and is no plain one then", () ->
            Checks.due("hunk(0, w)", Checks.hunk(Checks.of("abe", "cde"), 0), "0 2 2 0 0 0 4 4 0 1"));
        Checks.test("Promise 13, Terms: a hunk of which all lines come is a plain one", () ->
            Checks.due("hunk(0, w)", Checks.hunk(Checks.of("a", "abc"), 0), "1 0 2 1 0 0 0 0 1 0"));
        Checks.test("Promise 13, Terms: a hunk of which all lines go is a plain one", () ->
            Checks.due("hunk(0, w)", Checks.hunk(Checks.of("abc", "c"), 0), "0 2 0 1 0 0 4 4 0 1"));
        Checks.test("Promise 13: one line of the other kind, at either end, makes it no plain one", () -> {
            Checks.due("hunk(0, 3)", Checks.of("ab", "c").hunk(0, 3), 0);
            Checks.due("hunk(0, 3)", Checks.of("a", "bc").hunk(0, 3), 0);
        });
        Checks.test("Promise 13: there is no hunk of two texts that are the same", () -> {
            Checks.due("hunk(0, 0)", Checks.of("ab", "ab").hunk(0, 0), Checks.INVALID);
            Checks.due("hunk(0, 0)", Checks.of("", "", "a").hunk(0, 0), Checks.INVALID);
        });
        Checks.test("Promise 13: hunks are numbered from 0 from the top, up to the last one", () -> {
            HunkSlides x = Checks.of(TEN_OLD, TEN_NEW);
            Checks.due("hunk(h, 0)", Checks.row(11, h -> x.hunk(h, 0)), "0 2 4 6 8 10 12 14 16 18 -1");
            Checks.due("hunk(h, 1)", Checks.row(11, h -> x.hunk(h, 1)), "1 0 1 0 1 0 1 0 1 0 -1");
            Checks.due("hunk(h, 2)", Checks.row(11, h -> x.hunk(h, 2)), "0 1 0 1 0 1 0 1 0 1 -1");
        });
        Checks.test("Promise 13: the greatest hunk", () ->
            Checks.due("hunk(0, w)", Checks.hunk(Checks.of(A14, B14), 0), "0 14 14 0 0 0 4 4 0 0"));
        Checks.test("Promise 13: a hunk of one line", () ->
            Checks.due("hunk(0, w)", Checks.hunk(Checks.of("", "}"), 0), "0 0 1 1 0 0 7 7 0 0"));
    }

    private static void slides() {
        Checks.test("Promise 13: by how many lines up, one after the other, to the top of the view", () -> {
            HunkSlides x = Checks.of(Checks.times("a", 13), A14);
            Checks.due("hunk(0, 0)", x.hunk(0, 0), 13);
            Checks.due("hunk(0, 4)", x.hunk(0, 4), 13);
            Checks.due("hunk(0, 5)", x.hunk(0, 5), 0);
        });
        Checks.test("Promise 13: by how many lines down, one after the other, to the end of the view", () -> {
            HunkSlides x = Checks.settled(Checks.times("a", 13), A14);
            Checks.due("hunk(0, 0)", x.hunk(0, 0), 0);
            Checks.due("hunk(0, 4)", x.hunk(0, 4), 0);
            Checks.due("hunk(0, 5)", x.hunk(0, 5), 13);
        });
        Checks.test("Promise 13: a slide ends at the first line that is another one", () -> {
            Checks.due("hunk(0, 4)", Checks.of("bcaaa", "bcaaaa").hunk(0, 4), 3);
            Checks.due("hunk(0, 4)", Checks.of(".cabab", ".cababab").hunk(0, 4), 4);
        });
        Checks.test("Promise 13: a kept line stays between it and the hunk above it", () -> {
            HunkSlides one = Checks.of("a", "baa");
            Checks.due("view", Checks.view(one), "+ba+a");
            Checks.due("hunk(1, 4)", one.hunk(1, 4), 0);
            HunkSlides three = Checks.of("aaa", "baaaa");
            Checks.due("view", Checks.view(three), "+baaa+a");
            Checks.due("hunk(1, 4)", three.hunk(1, 4), 2);
        });
        Checks.test("Promise 13: a kept line stays between it and the hunk below it", () -> {
            HunkSlides x = Checks.settled("}}{}{", "}{");
            Checks.due("view", Checks.view(x), "-}}-{-}{");
            Checks.due("hunk(0, 5)", x.hunk(0, 5), 0);
            Checks.due("hunk(1, 5)", x.hunk(1, 5), 1);
            HunkSlides y = Checks.settled(".}.{{", ".{");
            Checks.due("view", Checks.view(y), "-.-}.-{{");
            Checks.due("hunk(0, 5)", y.hunk(0, 5), 0);
            HunkSlides z = Checks.settled("a.", "aa.}");
            Checks.due("view", Checks.view(z), "+aa.+}");
            Checks.due("hunk(0, 5)", z.hunk(0, 5), 1);
        });
        Checks.test("Promise 13: no plain one slides by none", () -> {
            HunkSlides x = Checks.of("ab", "aa");
            Checks.due("view", Checks.view(x), "a-b+a");
            Checks.due("hunk(0, 4)", x.hunk(0, 4), 0);
            Checks.due("hunk(0, 5)", x.hunk(0, 5), 0);
        });
        Checks.test("Promise 13: lines that go slide as those that come", () -> {
            HunkSlides x = Checks.of("cab.ab.", "cab.");
            Checks.due("view", Checks.view(x), "cab.-a-b-.");
            Checks.due("hunk(0, 4)", x.hunk(0, 4), 3);
        });
    }

    private static void worthOf(String oldText, String newText, int due) {
        HunkSlides x = Checks.of(oldText, newText);
        Checks.due("hunk(0, 6) of " + oldText + " and " + newText, x.hunk(0, 6), due);
        HunkSlides y = Checks.of(newText, oldText);
        Checks.due("hunk(0, 6) of " + newText + " and " + oldText, y.hunk(0, 6), due);
    }

    private static void worths() {
        Checks.test("Promise 13, Terms: worth 0", () -> worthOf("a", "abc", 0));
        Checks.test("Promise 13, Terms: worth 4 if there is no line ahead of it", () -> worthOf("", "a", 4));
        Checks.test("Promise 13, Terms: worth 4 if the line ahead of it is blank", () -> worthOf(".", ".a", 4));
        Checks.test("Promise 13, Terms: worth 2 if its last line is blank", () -> worthOf("a", "ab.", 2));
        Checks.test("Promise 13, Terms: worth 1 if its first line is {", () -> worthOf("a", "a{b", 1));
        Checks.test("Promise 13, Terms: worth 3 if its last line is }", () -> worthOf("a", "ab}", 3));
        Checks.test("Promise 13, Terms: not the first line blank, nor the last one {, nor the first one }", () -> {
            worthOf("a", "a.b", 0);
            worthOf("a", "ab{", 0);
            worthOf("a", "a}b", 0);
        });
        Checks.test("Promise 13, Terms: not the line behind it", () -> {
            worthOf("a.", "ab.", 0);
            worthOf("a}", "ab}", 0);
        });
        Checks.test("Promise 13, Terms: not a { or } ahead of it", () -> {
            worthOf("{", "{a", 0);
            worthOf("}", "}a", 0);
        });
        Checks.test("Promise 13, Terms: a hunk of one line is both first and last", () -> {
            worthOf("a", "a.", 2);
            worthOf("a", "a{", 1);
            worthOf("a", "a}", 3);
        });
        Checks.test("Promise 13, Terms: the sums", () -> {
            worthOf("", "{a}", 8);
            worthOf(".", ".{.", 7);
            worthOf(".", ".{}", 8);
            worthOf("", ".", 6);
            worthOf("a", "a{}", 4);
        });
        Checks.test("Promise 13: the greatest worth is of a place to which it could slide, not one beyond", () -> {
            HunkSlides x = Checks.of(".cab", ".cabab");
            Checks.due("hunk(0, w)", Checks.hunk(x, 0), "4 0 2 1 2 0 0 0 1 0");
            HunkSlides y = Checks.of(".ab", ".abab");
            Checks.due("hunk(0, w)", Checks.hunk(y, 0), "3 0 2 1 2 0 0 4 1 0");
        });
        Checks.test("Promise 13: the greatest worth, with its own", () -> {
            HunkSlides x = Checks.of("cb}b}", "cb}b}b}");
            Checks.due("hunk(0, w)", Checks.hunk(x, 0), "5 0 2 1 4 0 3 3 1 0");
        });
        Checks.test("Promise 13: the greatest worth is the same with SLIDE as 1, and is that of its place", () -> {
            HunkSlides x = Checks.settled(".ab", ".abab");
            Checks.due("hunk(0, w)", Checks.hunk(x, 0), "1 0 2 1 0 2 4 4 1 1");
            HunkSlides y = Checks.settled("cb.a", "cb.ab.a");
            Checks.due("view", Checks.view(y), "cb.+a+b+.a");
            Checks.due("hunk(0, w)", Checks.hunk(y, 0), "3 0 3 1 2 1 6 6 1 1");
        });
    }

    private static void settles(String oldText, String newText, String before, String after) {
        HunkSlides x = Checks.of(oldText, newText);
        Checks.due("view", Checks.view(x), before);
        x.set(HunkSlides.SLIDE, 1);
        Checks.due("view, settled", Checks.view(x), after);
    }

    private static void settling() {
        Checks.test("Promise 12, Terms: with SLIDE as 0 the view is not settled", () ->
            viewed("{a}", "{a}{a}", "{a}+{+a+}"));
        Checks.test("Promise 12, Terms: with SLIDE as 1 it is, whenever it is told", () -> {
            HunkSlides x = Checks.settled("{a}", "{a}{a}");
            Checks.due("view", Checks.view(x), "+{+a+}{a}");
            x.edit(0, 0, 1);
            x.edit(1, 0, 1);
            Checks.due("view, of other texts", Checks.view(x), "b{a}+{+a+}");
            x.edit(1, 0, 20);
            x.edit(0, 0, 20);
            Checks.due("view, again", Checks.view(x), "+{+a+}{a}");
            x.set(1, 0);
            Checks.due("view, not settled", Checks.view(x), "{a}+{+a+}");
        });
        Checks.test("Promise 12, Terms: of several places with the greatest worth the farthest down", () -> {
            HunkSlides x = Checks.settled(".ab.ab", ".ab.ab.ab");
            Checks.due("view", Checks.view(x), ".ab.+a+b+.ab");
            Checks.due("hunk(0, w)", Checks.hunk(x, 0), "4 0 3 1 4 2 6 6 1 1");
        });
        Checks.test("Promise 12, Terms: a hunk with the greatest worth at its own place stays", () ->
            Checks.due("view", Checks.view(Checks.settled("cbaba", "cbababa")), "cbaba+b+a"));
        Checks.test("Promise 12, Terms: a hunk without a better place stays", () -> settles("cab", "cabab", "cab+a+b", "cab+a+b"));
        Checks.test("Promise 12, Terms: to a place without a line ahead", () -> settles("ab", "abab", "ab+a+b", "+a+bab"));
        Checks.test("Promise 12, Terms: to a place with a blank line ahead", () ->
            settles("c.ab", "c.abab", "c.ab+a+b", "c.+a+bab"));
        Checks.test("Promise 12, Terms: to a place where its last line is blank", () ->
            settles("ab", "ab.b", "ab+.+b", "a+b+.b"));
        Checks.test("Promise 12, Terms: to a place where its first line is {", () ->
            settles("cb{a", "cb{ab{a", "cb{a+b+{+a", "cb+{+a+b{a"));
        Checks.test("Promise 12, Terms: to a place where its last line is }", () ->
            settles("ca}b", "ca}b}b", "ca}b+}+b", "ca}+b+}b"));
        Checks.test("Promise 12, Terms: to a place by the sum of its worth", () ->
            settles(".a{b}", ".a{b}a{b}", ".a{b}+a+{+b+}", ".+a+{+b+}a{b}"));
        Checks.test("Promise 12, Terms: of two places with the same sum by other parts, the one farthest down", () ->
            settles(".a}{", ".a}{a}{", ".a}{+a+}+{", ".a}+{+a+}{"));
        Checks.test("Promise 12, Terms: a greater worth is better than a place farther down", () ->
            Checks.due("view", Checks.view(Checks.settled(".{b}", ".{b{b}")), ".+{+b{b}"));
        Checks.test("Promise 12, Terms: of three places with the greatest worth, the first of them the top", () ->
            Checks.due("view", Checks.view(Checks.settled("ab.ab.a", "ab.ab.ab.a")), "ab.ab.+a+b+.a"));
        Checks.test("Promise 12, Terms: a hunk that is no plain one is not settled", () ->
            Checks.due("view", Checks.view(Checks.settled(".b", "..")), ".-b+."));
        Checks.test("Promise 12, Terms: with the hunks above it as they are by then", () -> {
            HunkSlides x = Checks.of("}}{}{", "}{");
            Checks.due("view", Checks.view(x), "}-}{-}-{");
            Checks.due("hunk(1, 4)", x.hunk(1, 4), 0);
            x.set(1, 1);
            Checks.due("view, settled", Checks.view(x), "-}}-{-}{");
        });
        Checks.test("Promise 12, Terms: a settled hunk keeps its number, and lines get other numbers", () -> {
            HunkSlides x = Checks.settled(".{b}", ".{b{b}");
            Checks.due("view", Checks.view(x), ".+{+b{b}");
            Checks.due("hunks", Checks.told(x, 4), ". 0 0 . . .");
            Checks.due("old numbers", Checks.told(x, 2), "0 . . 1 2 3");
            Checks.due("new numbers", Checks.told(x, 3), "0 1 2 3 4 5");
            x.swap(0, 1);
            Checks.due("view", Checks.view(x), ".-{-b{b}");
            Checks.due("old numbers", Checks.told(x, 2), "0 1 2 3 4 5");
            Checks.due("new numbers", Checks.told(x, 3), "0 . . 1 2 3");
        });
        Checks.test("Promise 12, Terms: to the top of the longest view of one hunk", () ->
            Checks.due("view", Checks.view(Checks.settled("aaaaaaa", A14)), Checks.times("+a", 7) + "aaaaaaa"));
    }

    private static void why(String oldText, String newText, int hunk, int up, int down) {
        HunkSlides x = Checks.of(oldText, newText);
        Checks.due("whyNot(" + hunk + ", false) of " + Checks.view(x), x.whyNot(hunk, false), up);
        Checks.due("whyNot(" + hunk + ", true) of " + Checks.view(x), x.whyNot(hunk, true), down);
    }

    private static void whyNot() {
        Checks.test("Promise 14: 0 if it can, up", () -> why("ab", "abab", 0, 0, 2));
        Checks.test("Promise 14: 0 if it can, down, to the end of the view", () -> {
            HunkSlides x = Checks.settled("a", "aa");
            Checks.due("view", Checks.view(x), "+aa");
            Checks.due("whyNot(0, true)", x.whyNot(0, true), 0);
            Checks.due("whyNot(0, false)", x.whyNot(0, false), 2);
        });
        Checks.test("Promise 14: 1 if it is no plain one, also if there is no line beyond it", () -> why("a", "b", 0, 1, 1));
        Checks.test("Promise 14: 1 if it is no plain one, also if the line beyond it is the same", () -> why("ab", "aa", 0, 1, 1));
        Checks.test("Promise 14: 2 if there is no line beyond it", () -> why("", "ab", 0, 2, 2));
        Checks.test("Promise 14: 3 if the line beyond it is another one", () -> why("cab", "cb", 0, 3, 3));
        Checks.test("Promise 14: 3 also if it would touch the next hunk", () -> {
            why("caeb", "ab", 1, 3, 3);
            why("caeb", "ab", 0, 2, 3);
        });
        Checks.test("Promise 14: up by its last line, not its first", () -> why("ca", "cacb", 0, 3, 2));
        Checks.test("Promise 14: down by its first line, not its last", () -> why("ca", "bca", 0, 2, 3));
        Checks.test("Promise 14: 4 if it would touch the hunk above it", () -> why("a", "baa", 1, 4, 2));
        Checks.test("Promise 14: 4 if it would touch the hunk below it", () -> {
            HunkSlides x = Checks.settled("}}{}{", "}{");
            Checks.due("view", Checks.view(x), "-}}-{-}{");
            Checks.due("whyNot(0, true)", x.whyNot(0, true), 4);
            Checks.due("whyNot(0, false)", x.whyNot(0, false), 2);
            Checks.due("whyNot(1, false)", x.whyNot(1, false), 4);
            Checks.due("whyNot(1, true)", x.whyNot(1, true), 0);
            HunkSlides y = Checks.settled(".}.{{", ".{");
            Checks.due("view", Checks.view(y), "-.-}.-{{");
            Checks.due("whyNot(0, true)", y.whyNot(0, true), 4);
        });
        Checks.test("Promise 14: 0 with two kept lines between it and the hunk below it", () -> {
            HunkSlides x = Checks.settled("a.", "aa.}");
            Checks.due("view", Checks.view(x), "+aa.+}");
            Checks.due("whyNot(0, true)", x.whyNot(0, true), 0);
        });
        Checks.test("Promise 14: 0 with two kept lines between it and the hunk above it", () -> why("aa", "baaa", 1, 0, 2));
        Checks.test("Promise 14: the hunks of two texts without a line in common, one of them empty", () -> {
            why(A14, "", 0, 2, 2);
            why("", A14, 0, 2, 2);
        });
    }

    private static void counted(String oldText, String newText, String due) {
        HunkSlides x = Checks.of(oldText, newText);
        Checks.due("count(3) to count(11) of " + oldText + " and " + newText, Checks.row(9, i -> x.count(3 + i)), due);
    }

    private static void count() {
        Checks.test("Promise 15: each number from 0 to 17", () -> {
            HunkSlides x = Checks.of("aab.c{", "ab..cd}", "ab");
            Checks.type(x, "!!!!!");
            x.set(0, 3);
            x.set(1, 1);
            Checks.due("count(w)", Checks.row(18, x::count), "6 7 2 9 4 2 3 3 2 2 14 3 0 0 3 1 5 4");
        });
        Checks.test("Promise 15: empty texts", () -> counted("", "", "0 0 0 0 0 0 0 0 0"));
        Checks.test("Promise 15: full texts, no line kept", () -> counted(A14, B14, "28 0 14 14 1 0 0 4 0"));
        Checks.test("Promise 15: full texts, all lines kept", () -> counted(A14, A14, "14 14 0 0 0 0 0 0 14"));
        Checks.test("Promise 15: ten hunks", () -> counted(TEN_OLD, TEN_NEW, "19 9 5 5 10 10 0 24 1"));
        Checks.test("Promise 15: plain hunks alone slide", () -> {
            counted("ab", "aa", "3 1 1 1 1 0 0 0 1");
            counted("a", "aa", "2 1 0 1 1 1 1 0 1");
        });
        Checks.test("Promise 15: a hunk that could slide down alone, and one that could slide both ways, count once", () -> {
            HunkSlides down = Checks.settled("a", "aa");
            Checks.due("count(9)", down.count(9), 1);
            HunkSlides both = Checks.settled(".ab.ab", ".ab.ab.ab");
            Checks.due("count(9)", both.count(9), 1);
        });
        Checks.test("Promise 15: the sum of the worths is of the places as they are told", () -> {
            HunkSlides x = Checks.of("}}{}{", "}{");
            Checks.due("count(10)", x.count(10), 3);
            x.set(1, 1);
            Checks.due("count(10), settled", x.count(10), 11);
        });
        Checks.test("Promise 15: the longest row of kept lines, at the top, in the midst and at the end", () -> {
            Checks.due("count(11)", Checks.of("abcde", "abcd").count(11), 4);
            Checks.due("count(11)", Checks.of("fabcf", "abc").count(11), 3);
            Checks.due("count(11)", Checks.of("ebcdef", "bcdef").count(11), 5);
            Checks.due("count(11)", Checks.of("abfcde", "abcde").count(11), 3);
            Checks.due("count(11)", Checks.of("abcfde", "abcde").count(11), 3);
        });
        Checks.test("Promise 15: the longest row is another one when the view is settled", () -> {
            HunkSlides x = Checks.of(".ab.ab", ".ab.ab.ab");
            Checks.due("count(11)", x.count(11), 6);
            x.set(1, 1);
            Checks.due("count(11), settled", x.count(11), 4);
        });
        Checks.test("Promise 15: the length of the full pad", () ->
            Checks.due("count(16)", Checks.padded(Checks.times("!", 40)).count(16), 40));
        Checks.test("Promise 15: the full texts", () ->
            Checks.due("count(0) to count(2)", Checks.row(3, Checks.of(A14, B14, A14)::count), "14 14 14"));
    }

    private static void alike() {
        Checks.test("Promise 16: 1.0 if both are empty", () ->
            Checks.due("alike()", Checks.of("", "", "ab").alike(), 1.0));
        Checks.test("Promise 16: one of them empty", () -> {
            Checks.due("alike()", Checks.of("ab", "").alike(), 0.0);
            Checks.due("alike()", Checks.of("", "ab").alike(), 0.0);
        });
        Checks.test("Promise 16: no line kept", () -> Checks.due("alike()", Checks.of(A14, B14).alike(), 0.0));
        Checks.test("Promise 16: full texts that are the same", () -> Checks.due("alike()", Checks.of(A14, A14).alike(), 1.0));
        Checks.test("Promise 16: as a double, divided by the lines of both", () -> {
            Checks.due("alike()", Checks.of("ab", "a").alike(), 2.0 / 3);
            Checks.due("alike()", Checks.of(A14, Checks.times("a", 13)).alike(), 26.0 / 27);
            Checks.due("alike()", Checks.of(A14, "ba").alike(), 2.0 / 16);
        });
    }

    public static void main(String[] args) {
        line();
        distance();
        viewOrder();
        viewEnds();
        hunkNumbers();
        slides();
        worths();
        settling();
        whyNot();
        count();
        alike();
        Checks.end("LookEdgesTest");
    }
}
