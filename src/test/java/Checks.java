import java.util.function.Consumer;
import java.util.function.Supplier;
import java.util.function.ToIntFunction;

/** What the tests of edges share: tests with titles, makers of objects, and looks at everything. */
final class Checks {
    static final int INVALID = -1, IMPOSSIBLE = -2, LIMIT = -3, NONE = -4;
    static final int MIN = Integer.MIN_VALUE, MAX = Integer.MAX_VALUE;
    static final String SIGNS = "abcdef.{}";

    private static String title = "";
    private static int tests = 0;
    private static int wrong = 0;

    private Checks() {
    }

    /** Runs one test; its title names the promise and the sentence. */
    static void test(String named, Runnable body) {
        title = named;
        tests++;
        body.run();
    }

    static void due(String call, double got, double want) {
        if (got != want) tell(call, String.valueOf(got), String.valueOf(want));
    }

    static void due(String call, String got, String want) {
        if (!got.equals(want)) tell(call, got, want);
    }

    private static void tell(String call, String got, String want) {
        wrong++;
        if (wrong <= 50) System.out.println(title + ": " + call + " answered " + got + ", due is " + want);
    }

    /** Ends a test's main, with exit code 1 if an answer was not the one that is due. */
    static void end(String file) {
        System.out.println(file + ": " + tests + " tests, " + (wrong == 0 ? "all answers are as due" : wrong + " wrong"));
        if (wrong != 0) System.exit(1);
    }

    static String times(String sign, int many) {
        return sign.repeat(many);
    }

    static HunkSlides type(HunkSlides x, String text) {
        for (char c : text.toCharArray()) x.append(c);
        return x;
    }

    static HunkSlides load(HunkSlides x, String text, int which) {
        x.clear();
        type(x, text);
        due("load(" + which + ") of " + text, x.load(which), text.length());
        return x;
    }

    static HunkSlides padded(String pad) {
        return type(new HunkSlides(), pad);
    }

    static HunkSlides of(String oldText, String newText, String third) {
        HunkSlides x = new HunkSlides();
        load(x, oldText, 0);
        load(x, newText, 1);
        return load(x, third, 2);
    }

    static HunkSlides of(String oldText, String newText) {
        return of(oldText, newText, "");
    }

    static HunkSlides settled(String oldText, String newText) {
        HunkSlides x = of(oldText, newText);
        x.set(HunkSlides.SLIDE, 1);
        return x;
    }

    /** Three texts and a setting of AROUND. */
    static HunkSlides around(int around, String oldText, String newText, String third) {
        HunkSlides x = of(oldText, newText, third);
        x.set(HunkSlides.AROUND, around);
        return x;
    }

    static String text(HunkSlides x, int which) {
        StringBuilder s = new StringBuilder();
        int lines = x.count(which);
        for (int i = 0; i < lines; i++) s.append(SIGNS.charAt(x.line(which, i)));
        return s.toString();
    }

    static String texts(HunkSlides x) {
        return text(x, 0) + "|" + text(x, 1) + "|" + text(x, 2);
    }

    /** The view as text: the sign of each line, with - ahead of it if it goes and + if it comes. */
    static String view(HunkSlides x) {
        StringBuilder s = new StringBuilder();
        int lines = x.count(3);
        for (int i = 0; i < lines; i++) {
            int kind = x.view(i, 0);
            s.append(kind == 0 ? "" : kind == 1 ? "-" : "+").append(SIGNS.charAt(x.view(i, 1)));
        }
        return s.toString();
    }

    /** One number of each line of the view, NONE as a dot. */
    static String told(HunkSlides x, int what) {
        StringBuilder s = new StringBuilder();
        int lines = x.count(3);
        for (int i = 0; i < lines; i++) {
            int n = x.view(i, what);
            s.append(i == 0 ? "" : " ").append(n == NONE ? "." : String.valueOf(n));
        }
        return s.toString();
    }

    /** The numbers that a call answers for 0, 1 and so on, below a bound. */
    static String row(int below, ToIntFunction<Integer> call) {
        StringBuilder s = new StringBuilder();
        for (int i = 0; i < below; i++) s.append(i == 0 ? "" : " ").append(call.applyAsInt(i));
        return s.toString();
    }

    /** All numbers of a hunk. */
    static String hunk(HunkSlides x, int hunk) {
        return row(10, w -> x.hunk(hunk, w));
    }

    /** What undo and restore bring back: texts, settings, numbers of patches. */
    static String state(HunkSlides x) {
        return texts(x) + " " + row(4, i -> x.count(12 + i));
    }

    /** Every look at the present state that changes nothing. */
    static String looks(HunkSlides x) {
        StringBuilder s = new StringBuilder(texts(x));
        s.append(" counts ").append(row(18, x::count)).append(" fault ").append(x.fault());
        s.append(" view ").append(view(x));
        for (int w = 2; w < 5; w++) s.append(" / ").append(told(x, w));
        int hunks = x.count(7);
        for (int h = 0; h < hunks; h++) {
            s.append(" hunk ").append(hunk(x, h)).append(' ').append(x.whyNot(h, false)).append(x.whyNot(h, true));
            for (int w = 0; w < 2; w++) {
                s.append(' ').append(x.ifLaid(h, false, w)).append(' ').append(x.ifLaid(h, true, w));
            }
        }
        s.append(" around ").append(row(4, x::ifAround)).append(" least ").append(x.least());
        return s.append(" apart ").append(x.distance(0)).append(x.distance(1)).append(' ').append(x.alike()).toString();
    }

    /** The state, and each one ahead of it, as undo brings them back. */
    static String past(HunkSlides x) {
        StringBuilder s = new StringBuilder();
        do {
            s.append(state(x)).append(" < ");
        } while (x.undo() >= 0 && s.length() < 10000);
        return s.toString();
    }

    /** What the snapshot holds. */
    static String held(HunkSlides x) {
        return x.restore() + " " + state(x);
    }

    /** What the pad holds, as far as it can be told by loading it. */
    static String padOf(HunkSlides x) {
        return x.count(16) + " " + x.fault() + " " + x.load(0) + " " + text(x, 0);
    }

    /**
     * Two like objects answer all looks alike when calls that change nothing have been made on one
     * of them. (New ones for each kind of look, so that none comes near its 512th call.)
     */
    static void changesNothing(String calls, Supplier<HunkSlides> made, Consumer<HunkSlides> done) {
        due("looks after " + calls, looks(after(made, done)), looks(made.get()));
        due("undo after " + calls, past(after(made, done)), past(made.get()));
        due("restore after " + calls, held(after(made, done)), held(made.get()));
        due("the pad after " + calls, padOf(after(made, done)), padOf(made.get()));
    }

    private static HunkSlides after(Supplier<HunkSlides> made, Consumer<HunkSlides> done) {
        HunkSlides x = made.get();
        done.accept(x);
        return x;
    }

    /** A call is refused with an error, and changes nothing. */
    static void refused(String call, int error, Supplier<HunkSlides> made, ToIntFunction<HunkSlides> done) {
        due(call, done.applyAsInt(made.get()), error);
        changesNothing(call, made, x -> done.applyAsInt(x));
    }
}
