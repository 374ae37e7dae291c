import java.util.function.Supplier;

/** Each error that a call can return, which one where several apply, and that nothing is changed then. */
public final class RefusalsTest {
    private static final String FULL = "abcdef.{}abcde";

    /** A call with one of its arguments left open. */
    private interface Call {
        int with(HunkSlides x, int argument);
    }

    /** Full history, a snapshot of other things, patches laid and left out, settings, a pad that can be loaded. */
    private static HunkSlides busy() {
        HunkSlides x = Checks.around(0, "acb", "c", "acf");
        x.lay(false);
        x.save();
        x.set(HunkSlides.AROUND, 2);
        x.set(HunkSlides.SLIDE, 1);
        x.edit(2, 0, 6);
        return Checks.type(x, "a.b");
    }

    private static HunkSlides busyWithFault() {
        return Checks.type(busy(), "!}");
    }

    private static HunkSlides busyWithFullPad() {
        return Checks.type(busy(), Checks.times("a", 37));
    }

    private static HunkSlides fullTexts() {
        return Checks.type(Checks.of(FULL, FULL, FULL), "ab");
    }

    private static HunkSlides tooLong() {
        HunkSlides x = Checks.of("", "a", FULL);
        x.save();
        x.edit(1, 0, 16);
        return Checks.type(x, "ab");
    }

    private static HunkSlides withoutHistory() {
        HunkSlides x = new HunkSlides();
        x.save();
        return Checks.type(x, "ab");
    }

    private static HunkSlides withoutSnapshot() {
        return Checks.type(Checks.of("acb", "c", "acf"), "ab");
    }

    private static HunkSlides withoutOldText() {
        return Checks.type(Checks.of("", "c", "acf"), "ab");
    }

    /** One below and one above a range, the least and the greatest int, and some that a narrower type would wrap. */
    private static int[] outside(int low, int high) {
        return new int[] {low - 1, high + 1, Checks.MIN, Checks.MAX, low - 256, low + 256, low + 65536, high - 65536};
    }

    private static void invalid(String promise, String argument, int[] values, Supplier<HunkSlides> made, Call call) {
        for (int value : values) {
            Checks.test(promise + ": INVALID_ARGUMENT if " + argument + " is " + value, () ->
                Checks.refused("the call", Checks.INVALID, made, x -> call.with(x, value)));
        }
    }

    private static void refusedAs(String title, int error, Supplier<HunkSlides> made, Call call) {
        Checks.test(title, () -> Checks.refused("the call", error, made, x -> call.with(x, 0)));
    }

    private static void pad() {
        invalid("Promise 2", "the code", outside(33, 126), RefusalsTest::busy, (x, v) -> x.append(v));
        invalid("Promise 2, the pad full", "the code", outside(33, 126), RefusalsTest::busyWithFullPad, (x, v) -> x.append(v));
        refusedAs("Promise 2: LIMIT_REACHED if the pad has 40 characters", Checks.LIMIT,
            RefusalsTest::busyWithFullPad, (x, v) -> x.append(97));
        refusedAs("Promise 2: LIMIT_REACHED also for a character that is no sign", Checks.LIMIT,
            RefusalsTest::busyWithFullPad, (x, v) -> x.append(126));
        refusedAs("Promise 4: NOT_FOUND if the pad has no fault", Checks.NONE, RefusalsTest::busy, (x, v) -> x.fault());
        invalid("Promise 5", "the text", outside(0, 2), RefusalsTest::busy, (x, v) -> x.load(v));
        invalid("Promise 5, the pad with a fault", "the text", outside(0, 2), RefusalsTest::busyWithFault, (x, v) -> x.load(v));
        for (int t = 0; t < 3; t++) {
            int text = t;
            refusedAs("Promise 5: NOT_POSSIBLE if the pad has a fault, text " + t, Checks.IMPOSSIBLE,
                RefusalsTest::busyWithFault, (x, v) -> x.load(text));
            refusedAs("Promise 5: NOT_POSSIBLE if the pad has fifteen signs and more, text " + t, Checks.IMPOSSIBLE,
                RefusalsTest::busyWithFullPad, (x, v) -> x.load(text));
        }
        refusedAs("Promise 5: NOT_POSSIBLE if the pad has just fifteen signs", Checks.IMPOSSIBLE,
            () -> Checks.type(busy(), "aaaaaaaaaaaa"), (x, v) -> x.load(0));
    }

    private static void edit() {
        invalid("Promise 6", "the text", outside(0, 2), RefusalsTest::busy, (x, v) -> x.edit(v, 0, 0));
        invalid("Promise 6, put out", "the text", outside(0, 2), RefusalsTest::busy, (x, v) -> x.edit(v, 0, 20));
        int[] signs = {-1, 9, 19, 21, -10, 30, 256, 266, 276, 65536, Checks.MIN, Checks.MIN + 9, Checks.MIN + 10,
            Checks.MAX, Checks.MAX - 9};
        invalid("Promise 6", "the sign", signs, RefusalsTest::busy, (x, v) -> x.edit(0, 0, v));
        invalid("Promise 6, behind the last line", "the sign", signs, RefusalsTest::busy, (x, v) -> x.edit(0, 3, v));
        invalid("Promise 6, text full", "the sign", signs, RefusalsTest::fullTexts, (x, v) -> x.edit(0, 0, v));
        invalid("Promise 6, to put one in", "the line", outside(0, 3), RefusalsTest::busy, (x, v) -> x.edit(0, v, 0));
        invalid("Promise 6, in place", "the line", outside(0, 2), RefusalsTest::busy, (x, v) -> x.edit(0, v, 10));
        invalid("Promise 6, in place, last sign", "the line", outside(0, 2), RefusalsTest::busy, (x, v) -> x.edit(0, v, 18));
        invalid("Promise 6, put out", "the line", outside(0, 2), RefusalsTest::busy, (x, v) -> x.edit(0, v, 20));
        invalid("Promise 6, text full, to put one in", "the line", outside(0, 14), RefusalsTest::fullTexts, (x, v) -> x.edit(2, v, 0));
        invalid("Promise 6, text full, in place", "the line", outside(0, 13), RefusalsTest::fullTexts, (x, v) -> x.edit(2, v, 10));
        invalid("Promise 6, text full, put out", "the line", outside(0, 13), RefusalsTest::fullTexts, (x, v) -> x.edit(2, v, 20));
        invalid("Promise 6, text empty, to put one in", "the line", outside(0, 0), HunkSlides::new, (x, v) -> x.edit(1, v, 8));
        invalid("Promise 6, text empty, in place", "the line", new int[] {0, -1, 1}, HunkSlides::new, (x, v) -> x.edit(1, v, 10));
        invalid("Promise 6, text empty, put out", "the line", new int[] {0, -1, 1}, HunkSlides::new, (x, v) -> x.edit(1, v, 20));
        invalid("Promise 6, other texts full", "the text", outside(0, 2), RefusalsTest::fullTexts, (x, v) -> x.edit(v, 0, 0));
        for (int t = 0; t < 3; t++) {
            int text = t;
            refusedAs("Promise 6: LIMIT_REACHED ahead of the first of 14 lines of text " + t, Checks.LIMIT,
                RefusalsTest::fullTexts, (x, v) -> x.edit(text, 0, 0));
            refusedAs("Promise 6: LIMIT_REACHED behind the last of 14 lines of text " + t, Checks.LIMIT,
                RefusalsTest::fullTexts, (x, v) -> x.edit(text, 14, 8));
        }
    }

    private static void swapAndSet() {
        invalid("Promise 7", "the one", outside(0, 2), RefusalsTest::busy, (x, v) -> x.swap(v, 1));
        invalid("Promise 7", "the other", outside(0, 2), RefusalsTest::busy, (x, v) -> x.swap(1, v));
        invalid("Promise 7", "each of both", new int[] {0, 1, 2, 3, -1}, RefusalsTest::busy, (x, v) -> x.swap(v, v));
        invalid("Promise 8", "what", outside(0, 1), RefusalsTest::busy, (x, v) -> x.set(v, 0));
        invalid("Promise 8", "AROUND", outside(0, 3), RefusalsTest::busy, (x, v) -> x.set(HunkSlides.AROUND, v));
        invalid("Promise 8", "SLIDE", outside(0, 1), RefusalsTest::busy, (x, v) -> x.set(HunkSlides.SLIDE, v));
        invalid("Promise 8", "SLIDE", new int[] {3}, RefusalsTest::busy, (x, v) -> x.set(HunkSlides.SLIDE, v));
    }

    private static void lay() {
        refusedAs("Promise 9: LIMIT_REACHED behind the only patch", Checks.LIMIT, RefusalsTest::tooLong, (x, v) -> x.lay(false));
        refusedAs("Promise 9: LIMIT_REACHED backwards", Checks.LIMIT,
            () -> Checks.of("a", "", FULL), (x, v) -> x.lay(true));
        refusedAs("Promise 9: LIMIT_REACHED behind the first of two patches alone", Checks.LIMIT,
            () -> Checks.around(0, "cb", "ac", "cb............"), (x, v) -> x.lay(false));
        refusedAs("Promise 9: LIMIT_REACHED behind the second of two patches alone", Checks.LIMIT,
            () -> Checks.around(0, "bc", "caa", "bc............"), (x, v) -> x.lay(false));
        refusedAs("Promise 9: LIMIT_REACHED and a patch left out", Checks.LIMIT,
            () -> Checks.around(0, "cb", "ac", "cccccccccccccc"), (x, v) -> x.lay(false));
    }

    private static void looks() {
        invalid("Promise 10", "the text", outside(0, 2), RefusalsTest::busy, (x, v) -> x.line(v, 0));
        invalid("Promise 10, rather than NOT_FOUND", "the text", outside(0, 2), RefusalsTest::busy, (x, v) -> x.line(v, 14));
        invalid("Promise 10", "the line", new int[] {-1, -256, Checks.MIN}, RefusalsTest::busy, (x, v) -> x.line(0, v));
        invalid("Promise 10, text empty", "the line", new int[] {-1, Checks.MIN}, HunkSlides::new, (x, v) -> x.line(0, v));
        refusedAs("Promise 10: NOT_FOUND changes nothing", Checks.NONE, RefusalsTest::busy, (x, v) -> x.line(0, 3));
        invalid("Promise 11", "the way", outside(0, 1), RefusalsTest::busy, (x, v) -> x.distance(v));
        invalid("Promise 12", "the place", new int[] {-1, -256, Checks.MIN}, RefusalsTest::busy, (x, v) -> x.view(v, 0));
        invalid("Promise 12, view empty", "the place", new int[] {-1, Checks.MIN}, HunkSlides::new, (x, v) -> x.view(v, 0));
        invalid("Promise 12", "what", outside(0, 4), RefusalsTest::busy, (x, v) -> x.view(0, v));
        invalid("Promise 12, rather than NOT_FOUND", "what", outside(0, 4), RefusalsTest::busy, (x, v) -> x.view(28, v));
        invalid("Promise 12, view empty", "what", outside(0, 4), HunkSlides::new, (x, v) -> x.view(0, v));
        refusedAs("Promise 12: NOT_FOUND changes nothing", Checks.NONE, RefusalsTest::busy, (x, v) -> x.view(28, 0));
        for (int w = 0; w < 10; w++) {
            int what = w;
            invalid("Promise 13, what " + w, "the hunk", outside(0, 1), RefusalsTest::busy, (x, v) -> x.hunk(v, what));
        }
        invalid("Promise 13", "what", outside(0, 9), RefusalsTest::busy, (x, v) -> x.hunk(0, v));
        invalid("Promise 13, no hunk", "the hunk", new int[] {0, -1, 1}, HunkSlides::new, (x, v) -> x.hunk(v, 0));
        invalid("Promise 14, up", "the hunk", outside(0, 1), RefusalsTest::busy, (x, v) -> x.whyNot(v, false));
        invalid("Promise 14, down", "the hunk", outside(0, 1), RefusalsTest::busy, (x, v) -> x.whyNot(v, true));
        invalid("Promise 14, no hunk", "the hunk", new int[] {0, -1, 1}, RefusalsTest::fullTexts, (x, v) -> x.whyNot(v, true));
        invalid("Promise 15", "what", outside(0, 17), RefusalsTest::busy, (x, v) -> x.count(v));
    }

    private static void whatWouldBe() {
        for (int w = 0; w < 2; w++) {
            int what = w;
            invalid("Promise 17, what " + w, "the hunk", outside(0, 1), RefusalsTest::busy, (x, v) -> x.ifLaid(v, false, what));
            invalid("Promise 17, backwards, what " + w, "the hunk", outside(0, 1), RefusalsTest::busy, (x, v) -> x.ifLaid(v, true, what));
            refusedAs("Promise 17: NOT_FOUND if it would be left out, what " + w, Checks.NONE,
                RefusalsTest::busy, (x, v) -> x.ifLaid(0, false, what));
        }
        invalid("Promise 17", "what", outside(0, 1), RefusalsTest::withoutSnapshot, (x, v) -> x.ifLaid(0, true, v));
        invalid("Promise 17, rather than NOT_FOUND", "what", outside(0, 1), RefusalsTest::busy, (x, v) -> x.ifLaid(0, false, v));
        invalid("Promise 17, no hunk", "the hunk", new int[] {0, -1, 1}, RefusalsTest::fullTexts, (x, v) -> x.ifLaid(v, true, 0));
        invalid("Promise 18", "AROUND", outside(0, 3), RefusalsTest::busy, (x, v) -> x.ifAround(v));
        refusedAs("Promise 19: NOT_POSSIBLE if the old text is empty", Checks.IMPOSSIBLE,
            RefusalsTest::withoutOldText, (x, v) -> x.least());
    }

    private static void history() {
        refusedAs("Promise 20: NOT_POSSIBLE if the history has no state", Checks.IMPOSSIBLE,
            RefusalsTest::withoutHistory, (x, v) -> x.undo());
        refusedAs("Promise 20: NOT_POSSIBLE if all states have been undone", Checks.IMPOSSIBLE, () -> {
            HunkSlides x = busy();
            for (int i = 0; i < 4; i++) x.undo();
            return x;
        }, (x, v) -> x.undo());
        refusedAs("Promise 22: NOT_POSSIBLE if there is no snapshot", Checks.IMPOSSIBLE,
            RefusalsTest::withoutSnapshot, (x, v) -> x.restore());
    }

    /** That the state used above is as rich as it should be. */
    private static void rich() {
        Checks.test("Errors: the state on which calls are refused", () -> {
            HunkSlides x = busy();
            Checks.due("count(w)", Checks.row(18, x::count), "3 1 3 3 1 2 0 2 2 0 4 1 1 1 2 1 3 4");
            Checks.due("texts", Checks.texts(x), "acb|c|.cf");
            Checks.due("restore()", x.restore(), 2);
            Checks.due("texts", Checks.texts(x), "acb|c|cf");
        });
    }

    public static void main(String[] args) {
        rich();
        pad();
        edit();
        swapAndSet();
        lay();
        looks();
        whatWouldBe();
        history();
        Checks.end("RefusalsTest");
    }
}
