/** The edges that the document names for promises 9, 17 and 18: patches, and where they are laid. */
public final class LayEdgesTest {
    private static final String B14 = Checks.times("b", 14);

    private static void laid(HunkSlides x, boolean backwards, int patches, String third) {
        Checks.due("lay(" + backwards + ")", x.lay(backwards), patches);
        Checks.due("the third text", Checks.text(x, 2), third);
    }

    /** Where each patch would be laid, and how much lower than looked for, and 100. */
    private static void found(HunkSlides x, boolean backwards, String places, String lower) {
        int hunks = x.count(7);
        Checks.due("ifLaid(h, " + backwards + ", 0)", Checks.row(hunks, h -> x.ifLaid(h, backwards, 0)), places);
        Checks.due("ifLaid(h, " + backwards + ", 1)", Checks.row(hunks, h -> x.ifLaid(h, backwards, 1)), lower);
    }

    private static String ahead(HunkSlides x) {
        return Checks.row(x.count(7), h -> x.hunk(h, 8));
    }

    private static String behind(HunkSlides x) {
        return Checks.row(x.count(7), h -> x.hunk(h, 9));
    }

    private static void linesAround() {
        Checks.test("Promise 13, Patches: up to AROUND kept lines on both sides", () -> {
            for (int around = 0; around <= 3; around++) {
                HunkSlides x = Checks.around(around, "abcddcba", "abcd.dcba", "");
                Checks.due("hunk(0, 8)", x.hunk(0, 8), around);
                Checks.due("hunk(0, 9)", x.hunk(0, 9), around);
            }
        });
        Checks.test("Promise 13, Patches: AROUND is 1 at first", () -> {
            HunkSlides x = Checks.of("abcddcba", "abcd.dcba");
            Checks.due("hunk(0, 8)", x.hunk(0, 8), 1);
            Checks.due("hunk(0, 9)", x.hunk(0, 9), 1);
        });
        Checks.test("Promise 13, Patches: as many as there are at the ends of the view", () -> {
            HunkSlides x = Checks.around(3, "ab", "a.b", "");
            Checks.due("hunk(0, 8)", ahead(x), "1");
            Checks.due("hunk(0, 9)", behind(x), "1");
            HunkSlides y = Checks.around(3, "a", "b", "");
            Checks.due("hunk(0, 8)", ahead(y), "0");
            Checks.due("hunk(0, 9)", behind(y), "0");
        });
        Checks.test("Promise 13, Patches: none of them beyond another hunk", () -> {
            HunkSlides x = Checks.around(3, "abcdef", "bcef", "");
            Checks.due("view", Checks.view(x), "-abc-def");
            Checks.due("ahead", ahead(x), "0 2");
            Checks.due("behind", behind(x), "2 2");
        });
        Checks.test("Promise 13, Patches: the kept line between two hunks is around both", () -> {
            HunkSlides x = Checks.around(2, "acb", "c", "");
            Checks.due("ahead", ahead(x), "0 1");
            Checks.due("behind", behind(x), "1 0");
        });
        Checks.test("Promise 13, Patches: by the view as it is told", () -> {
            HunkSlides x = Checks.around(3, ".ab.ab", ".ab.ab.ab", "");
            Checks.due("ahead", ahead(x), "3");
            Checks.due("behind", behind(x), "0");
            x.set(1, 1);
            Checks.due("behind, settled", behind(x), "2");
        });
    }

    private static void place() {
        Checks.test("Promise 17, Patches: the place is how many old lines are ahead of the lines around it, too", () -> {
            found(Checks.around(0, "abcd", "abc", "abcd"), false, "3", "100");
            found(Checks.around(1, "abcd", "abc", "abcd"), false, "2", "100");
            found(Checks.around(3, "abcd", "abc", "abcd"), false, "0", "100");
        });
        Checks.test("Promise 17, Patches: lines that come are not ahead of it in the old text, but in the new one", () -> {
            HunkSlides x = Checks.around(0, "ab", "cca", "ab");
            Checks.due("view", Checks.view(x), "+c+ca-b");
            found(x, false, "0 3", "100 100");
            found(Checks.around(0, "ab", "cca", "cca"), true, "0 1", "100 100");
        });
        Checks.test("Promise 17, Patches: the place by the view as it is told", () -> {
            HunkSlides x = Checks.of(".ab.ab", ".ab.ab.ab", ".a");
            found(x, false, "-4", "-4");
            x.set(1, 1);
            found(x, false, "0", "97");
        });
    }

    private static void moved() {
        Checks.test("Promise 17, Patches: looked for lower by the lines that the third text grew by", () -> {
            HunkSlides x = Checks.around(0, "ab", "cdabe", "abff");
            found(x, false, "0 4", "100 100");
            laid(x, false, 2, "cdabeff");
        });
        Checks.test("Promise 17, Patches: looked for higher if it became shorter", () -> {
            HunkSlides x = Checks.around(0, "abcde", "cdef", "abcdeee");
            found(x, false, "0 3", "100 100");
            laid(x, false, 2, "cdefee");
        });
        Checks.test("Promise 17, Patches: looked for lower by the shift, which is 0 at first", () -> {
            HunkSlides x = Checks.around(0, "ab", "b.", "ccabdd");
            found(x, false, "2 3", "102 100");
            laid(x, false, 2, "ccb.dd");
        });
        Checks.test("Promise 17, Patches: looked for higher by a shift below 0", () -> {
            HunkSlides x = Checks.around(0, "ccab", "ccb.", "abdd");
            found(x, false, "0 1", "98 100");
            laid(x, false, 2, "b.dd");
        });
        Checks.test("Promise 17, Patches: the shift becomes what it was, and how much lower the patch was found", () -> {
            HunkSlides x = Checks.around(0, "ecf", "c.", ".e.cf");
            Checks.due("view", Checks.view(x), "-ec-f+.");
            found(x, false, "1 3", "101 101");
            HunkSlides y = Checks.around(0, "abcd", "bd.", ".ab.cd");
            Checks.due("view", Checks.view(y), "-ab-cd+.");
            found(y, false, "1 3 4", "101 101 100");
            laid(y, false, 3, ".b.d.");
        });
    }

    private static void nearest(String third, String place, String lower) {
        found(Checks.around(0, "cca", "cc", third), false, place, lower);
    }

    private static void search() {
        Checks.test("Promise 17, Patches: at its place ahead of all others", () -> nearest("aaaaa", "2", "100"));
        Checks.test("Promise 17, Patches: one line higher ahead of one line lower", () -> nearest(".a.a.", "1", "99"));
        Checks.test("Promise 17, Patches: one line lower ahead of two lines higher", () -> nearest("a..a.", "3", "101"));
        Checks.test("Promise 17, Patches: two lines higher ahead of two lines lower", () -> nearest("a...a", "0", "98"));
        Checks.test("Promise 17, Patches: two lines lower ahead of all farther ones", () -> nearest("....aa", "4", "102"));
        Checks.test("Promise 17, Patches: as far as the third text goes", () -> {
            found(Checks.around(0, "ab", "b", Checks.times("c", 13) + "a"), false, "13", "113");
            found(Checks.around(0, Checks.times("c", 13) + "a", Checks.times("c", 13), "a" + Checks.times("b", 13)),
                false, "0", "87");
        });
        Checks.test("Promise 17, Patches: looked for beyond the third text, found in it", () -> nearest("a", "0", "98"));
        Checks.test("Promise 17, Patches: NOT_FOUND if it would be left out", () -> {
            nearest("ccb", "-4", "-4");
            nearest("", "-4", "-4");
        });
        Checks.test("Promise 17, Patches: a part that goes beyond the third text is not there", () -> {
            HunkSlides x = Checks.around(0, "ab", "", "cca");
            found(x, false, "-4", "-4");
            laid(x, false, 0, "cca");
            found(Checks.around(0, "ab", "", "ccab"), false, "2", "102");
        });
        Checks.test("Promise 17, Patches: all lines around must fit", () -> {
            found(Checks.of("abc", "ac", "dbc"), false, "-4", "-4");
            found(Checks.of("abc", "ac", "abd"), false, "-4", "-4");
            found(Checks.of("abc", "ac", "dabc"), false, "1", "101");
        });
        Checks.test("Promise 17, Patches: each patch, up to the last one of ten", () -> {
            HunkSlides x = Checks.around(0, "{ab{cd{ef{ab{c", "a}bc}de}fa}bc}", "{ab{cd{ef{ab{c");
            found(x, false, "0 1 3 4 6 7 9 10 12 13", "100 100 100 100 100 100 100 100 100 100");
            laid(x, false, 10, "a}bc}de}fa}bc}");
        });
    }

    private static void bounds() {
        Checks.test("Promise 17, Patches: not ahead of the end of the new part of the patch laid last", () -> {
            HunkSlides x = Checks.around(0, "acb", "c", "ba");
            found(x, false, "1 -4", "101 -4");
            laid(x, false, 1, "b");
        });
        Checks.test("Promise 17, Patches: not in the new part of the patch laid last", () -> {
            HunkSlides x = Checks.around(0, "accb", "bcc", "acc");
            Checks.due("view", Checks.view(x), "-a+bcc-b");
            found(x, false, "0 -4", "100 -4");
            laid(x, false, 1, "bcc");
        });
        Checks.test("Promise 17, Patches: at the very end of the new part of the patch laid last", () -> {
            HunkSlides x = Checks.around(0, "accb", "ecc", "ab");
            found(x, false, "0 1", "100 98");
            laid(x, false, 2, "e");
        });
        Checks.test("Promise 17, Patches: from the lines on that the patch laid last had behind its hunk", () -> {
            HunkSlides x = Checks.of("acb", "c", "acb");
            found(x, false, "0 0", "100 100");
            laid(x, false, 2, "c");
            HunkSlides y = Checks.around(3, "accb", "cc", "accb");
            found(y, false, "0 0", "100 100");
            laid(y, false, 2, "cc");
        });
        Checks.test("Promise 17, Patches: not ahead of the lines that the patch laid last had behind its hunk", () -> {
            HunkSlides x = Checks.of("bacb", "bc", "cbbac");
            Checks.due("view", Checks.view(x), "b-ac-b");
            found(x, false, "2 -4", "102 -4");
            HunkSlides y = Checks.of("cfdc", "dcfdec", "c");
            Checks.due("view", Checks.view(y), "+dcfd+ec");
            found(y, false, "0 -4", "100 -4");
        });
        Checks.test("Promise 17, Patches: a patch that is left out bounds and moves nothing", () -> {
            HunkSlides x = Checks.around(0, "acdcb", "cc", "acb");
            Checks.due("view", Checks.view(x), "-ac-dc-b");
            found(x, false, "0 -4 1", "100 -4 98");
            HunkSlides y = Checks.around(0, "acbb.", "cbb{.", "cbb.");
            Checks.due("view", Checks.view(y), "-acbb+{.");
            found(y, false, "-4 4", "-4 100");
        });
        Checks.test("Promise 17, Patches: the first patch from the beginning of the third text on", () ->
            found(Checks.around(0, "ccca", "ccc", "a"), false, "0", "97"));
    }

    private static void emptyPart() {
        Checks.test("Promise 17, Patches: an old part without lines is at each line", () -> {
            found(Checks.around(0, "ab", ".ab", "ccc"), false, "0", "100");
            found(Checks.around(0, "ab", "a.b", "ccc"), false, "1", "100");
        });
        Checks.test("Promise 17, Patches: an old part without lines is behind the last one", () -> {
            HunkSlides x = Checks.around(0, "abc", "abc.", "ddd");
            found(x, false, "3", "100");
            laid(x, false, 1, "ddd.");
        });
        Checks.test("Promise 17, Patches: an old part without lines is not beyond the last one", () -> {
            HunkSlides x = Checks.around(0, "abc", "abc.", "d");
            found(x, false, "1", "98");
            laid(x, false, 1, "d.");
        });
        Checks.test("Promise 17, Patches: an old part without lines is in the empty text", () -> {
            HunkSlides x = Checks.around(0, "abc", "abc.", "");
            found(x, false, "0", "97");
            laid(x, false, 1, ".");
        });
        Checks.test("Promise 17, Patches: an old part with lines is not in the empty text", () -> {
            HunkSlides x = Checks.around(0, "abc", "", "");
            found(x, false, "-4", "-4");
            laid(x, false, 0, "");
        });
        Checks.test("Promise 17, Patches: a new part without lines leaves an empty text", () ->
            laid(Checks.around(3, "abc", "", "abc"), false, 1, ""));
    }

    private static void backwards() {
        Checks.test("Promise 9: backwards, lines that come are put out and lines that go put in", () -> {
            HunkSlides x = Checks.of("abc.", "a{c", "a{c");
            Checks.due("view", Checks.view(x), "a-b+{c-.");
            laid(x, true, 2, "abc.");
            laid(x, false, 2, "a{c");
        });
        Checks.test("Promise 17, Patches: backwards, the place is by lines of the new text", () -> {
            HunkSlides x = Checks.around(0, "ab", "ccab.", "ccab.");
            found(x, true, "0 2", "100 100");
            laid(x, true, 2, "ab");
            HunkSlides y = Checks.around(0, "ab", "ccab.", "dddd.");
            found(y, true, "-4 4", "-4 100");
        });
        Checks.test("Promise 17, Patches: backwards, a new part without lines is at each line and behind the last", () -> {
            found(Checks.around(0, "ab", "a", "cc"), true, "1", "100");
            found(Checks.around(0, "ab", "a", "c"), true, "1", "100");
            found(Checks.around(0, "ab", "a", ""), true, "0", "99");
        });
        Checks.test("Promise 17, Patches: backwards, growth and bounds by the parts exchanged", () -> {
            HunkSlides x = Checks.around(0, "bcc", "accb", "acc");
            Checks.due("view", Checks.view(x), "-b+acc+b");
            found(x, true, "0 -4", "100 -4");
            HunkSlides y = Checks.around(0, "cdab", "abe", "abe");
            Checks.due("view", Checks.view(y), "-c-dab+e");
            found(y, true, "0 4", "100 100");
        });
    }

    private static void limit() {
        Checks.test("Promise 9: exactly 14 lines are laid", () ->
            laid(Checks.of("", "a", Checks.times("b", 13)), false, 1, "a" + Checks.times("b", 13)));
        Checks.test("Promise 9: 14 lines of none", () -> laid(Checks.of("", B14), false, 1, B14));
        Checks.test("Promise 9: a full text is laid on, if it does not grow", () ->
            laid(Checks.of("a", "c", "a" + Checks.times("b", 13)), false, 1, "c" + Checks.times("b", 13)));
        Checks.test("Promise 9: 13 lines behind the first patch and 14 behind the second", () ->
            laid(Checks.around(0, "bc", "ca", "bc............"), false, 2, "ca............"));
        Checks.test("Promise 9: 15 lines behind the first patch and 14 behind the second", () -> {
            HunkSlides x = Checks.around(0, "cb", "ac", "cb............");
            Checks.due("view", Checks.view(x), "+ac-b");
            Checks.due("lay(false)", x.lay(false), Checks.LIMIT);
            Checks.due("the third text", Checks.text(x, 2), "cb............");
        });
        Checks.test("Promise 9: 15 lines behind the last patch", () ->
            Checks.due("lay(false)", Checks.of("", "a", B14).lay(false), Checks.LIMIT));
        Checks.test("Promise 9: 15 lines backwards", () -> {
            Checks.due("lay(true)", Checks.of("a", "", B14).lay(true), Checks.LIMIT);
            laid(Checks.of("a", "", Checks.times("b", 13)), true, 1, "a" + Checks.times("b", 13));
        });
        Checks.test("Promise 9: 28 lines", () ->
            Checks.due("lay(false)", Checks.of("", B14, B14).lay(false), Checks.LIMIT));
        Checks.test("Promise 9: a full text and a patch that is left out", () ->
            laid(Checks.of("a", "ac", B14), false, 0, B14));
        Checks.test("Promise 17: whatever the length of the third text would be", () -> {
            found(Checks.around(0, "", "a", B14), false, "0", "100");
            HunkSlides x = Checks.of("ab", "ccccccccccca.b", "ddddddddddddab");
            Checks.due("view", Checks.view(x), Checks.times("+c", 11) + "a+.b");
            found(x, false, "12 23", "112 100");
            Checks.due("lay(false)", x.lay(false), Checks.LIMIT);
        });
        Checks.test("Promise 18: whatever the length of the third text would be", () -> {
            HunkSlides x = Checks.of("ab", "ccccccccccca.b", "ddddddddddddab");
            Checks.due("ifAround(w)", Checks.row(4, x::ifAround), "2 2 2 2");
        });
    }

    private static void lay() {
        Checks.test("Promise 9: there is no hunk", () -> {
            HunkSlides x = Checks.of("ab", "ab", "c");
            laid(x, false, 0, "c");
            laid(x, true, 0, "c");
            Checks.due("patches", x.count(12) + x.count(13), 0);
            Checks.due("a change, also if nothing is different", x.undo(), 3);
        });
        Checks.test("Promise 9: all texts are empty", () -> {
            HunkSlides x = new HunkSlides();
            laid(x, false, 0, "");
            laid(x, true, 0, "");
            Checks.due("count(17)", x.count(17), 2);
        });
        Checks.test("Promise 9: the old and the new text stay", () -> {
            HunkSlides x = Checks.of("abc", "ac", "abc");
            x.lay(false);
            Checks.due("texts", Checks.texts(x), "abc|ac|ac");
        });
        Checks.test("Promise 9: patches laid and left out are counted so far", () -> {
            HunkSlides x = Checks.around(0, "acb", "c", "acf");
            laid(x, false, 1, "cf");
            Checks.due("laid", x.count(12), 1);
            Checks.due("left out", x.count(13), 1);
            laid(x, false, 0, "cf");
            Checks.due("laid", x.count(12), 1);
            Checks.due("left out", x.count(13), 3);
            laid(x, true, 2, "acbf");
            Checks.due("laid", x.count(12), 3);
            Checks.due("left out", x.count(13), 3);
        });
        Checks.test("Promise 9: with the setting SLIDE the patches of the settled view are laid", () -> {
            HunkSlides x = Checks.of(".ab.ab", ".ab.ab.ab", ".a");
            laid(x, false, 0, ".a");
            x.set(1, 1);
            laid(x, false, 1, ".ab.a");
        });
        Checks.test("Promise 9: with the setting AROUND", () -> {
            laid(Checks.around(1, "abc", "ac", "b"), false, 0, "b");
            laid(Checks.around(0, "abc", "ac", "b"), false, 1, "");
        });
    }

    private static void whatWouldBe() {
        Checks.test("Promise 17: what is 0 or 1; nothing is changed", () -> Checks.changesNothing("ifLaid",
            () -> Checks.of("abc.", "a{c", "abc."), x -> {
                Checks.due("ifLaid(0, false, 0)", x.ifLaid(0, false, 0), 0);
                Checks.due("ifLaid(0, false, 1)", x.ifLaid(0, false, 1), 100);
                Checks.due("ifLaid(1, false, 0)", x.ifLaid(1, false, 0), 2);
                Checks.due("ifLaid(0, true, 1)", x.ifLaid(0, true, 1), Checks.NONE);
                Checks.due("ifLaid(1, true, 1)", x.ifLaid(1, true, 1), 100);
            }));
        Checks.test("Promise 17: the line of the third text as it is by then", () ->
            found(Checks.around(0, "ab", "ccca.b", "ab"), false, "0 4", "100 100"));
        Checks.test("Promise 18: from 0 to 3", () -> {
            HunkSlides x = Checks.of("abcdedcba", "abcd.edcba", "abcdedcba");
            Checks.due("ifAround(w)", Checks.row(4, x::ifAround), "1 1 1 1");
            HunkSlides y = Checks.of("abcdedcba", "abcdfdcba", ".bcdedcb.");
            Checks.due("ifAround(w)", Checks.row(4, y::ifAround), "1 1 1 1");
            HunkSlides z = Checks.of("abcdedcba", "abcdfdcba", "..cdedcb.");
            Checks.due("ifAround(w)", Checks.row(4, z::ifAround), "1 1 1 0");
            HunkSlides v = Checks.of("abcdedcba", "abcdfdcba", "...ded.ba");
            Checks.due("ifAround(w)", Checks.row(4, v::ifAround), "1 1 0 0");
            HunkSlides w = Checks.of("abcdedcba", "abcdfdcba", "abc.edcba");
            Checks.due("ifAround(w)", Checks.row(4, w::ifAround), "1 0 0 0");
        });
        Checks.test("Promise 18: there is no hunk", () ->
            Checks.due("ifAround(w)", Checks.row(4, Checks.of("a", "a", "a")::ifAround), "0 0 0 0"));
        Checks.test("Promise 18: forwards, and whatever AROUND is", () -> {
            for (int around = 0; around <= 3; around++) {
                HunkSlides x = Checks.around(around, "abc", "ac", ".b.");
                Checks.due("ifAround(w)", Checks.row(4, x::ifAround), "1 0 0 0");
                Checks.due("count(14)", x.count(14), around);
            }
        });
        Checks.test("Promise 18: by the view as it is told", () -> {
            HunkSlides x = Checks.of(".ab.ab", ".ab.ab.ab", ".a");
            Checks.due("ifAround(1)", x.ifAround(1), 0);
            x.set(1, 1);
            Checks.due("ifAround(1), settled", x.ifAround(1), 1);
        });
        Checks.test("Promise 18: nothing is changed", () -> Checks.changesNothing("ifAround",
            () -> Checks.of("abc.", "a{c", "abc."), x -> {
                for (int around = 0; around <= 3; around++) Checks.due("ifAround", x.ifAround(around), 2);
            }));
    }

    public static void main(String[] args) {
        linesAround();
        place();
        moved();
        search();
        bounds();
        emptyPart();
        backwards();
        limit();
        lay();
        whatWouldBe();
        Checks.end("LayEdgesTest");
    }
}
