import java.util.function.Consumer;
import java.util.function.Function;
import java.util.function.ToIntFunction;

/** The edges that the document names for promises 19 to 22, of the history, and of 512 calls. */
public final class HistoryEdgesTest {
    private static final String A14 = Checks.times("a", 14);

    private static void least() {
        Checks.test("Promise 19: an old text of one line", () -> {
            Checks.due("least()", Checks.of("a", "").least(), 0);
            Checks.due("least()", Checks.of("a", "a").least(), 0);
        });
        Checks.test("Promise 19: of several the lowest", () -> {
            Checks.due("least(), all go", Checks.of("abc", "").least(), 0);
            Checks.due("least(), all kept", Checks.of("abc", "abc").least(), 0);
            Checks.due("least(), two of four go", Checks.of("abcd", "ac").least(), 1);
            Checks.due("least(), one of three alike", Checks.of("baaa", "baa").least(), 1);
        });
        Checks.test("Promise 19: the last line of a full text", () ->
            Checks.due("least()", Checks.of("abcdefabcdef.{", "abcdefabcdef.").least(), 13));
        Checks.test("Promise 19: a full text without a line in common", () ->
            Checks.due("least()", Checks.of(A14, Checks.times("b", 14)).least(), 0));
        Checks.test("Promise 19: NOT_POSSIBLE if the old text is empty, whatever the others are", () -> {
            Checks.due("least()", Checks.of("", "ab", "ab").least(), Checks.IMPOSSIBLE);
            Checks.due("least()", new HunkSlides().least(), Checks.IMPOSSIBLE);
        });
        Checks.test("Promise 19: nothing is changed", () -> Checks.changesNothing("least",
            () -> Checks.of("abcd", "ac", "ab"), x -> Checks.due("least()", x.least(), 1)));
    }

    /** A change is recorded, and undo brings back everything before it but the pad. */
    private static void undone(String named, ToIntFunction<HunkSlides> change, int due) {
        Checks.test("Promise 20: undoes " + named, () -> {
            HunkSlides x = Checks.of("acb", "c", "acf");
            x.set(0, 0);
            x.lay(false);
            x.save();
            x.edit(0, 3, 8);
            x.undo();
            x.undo();
            String before = Checks.state(x);
            int states = x.count(17);
            Checks.due(named, change.applyAsInt(x), due);
            Checks.due("count(17)", x.count(17), states + 1);
            Checks.due("undo()", x.undo(), states);
            Checks.due("the state then", Checks.state(x), before);
        });
    }

    private static void undo() {
        Checks.test("Promise 20: NOT_POSSIBLE if the history has no state", () ->
            Checks.due("undo()", new HunkSlides().undo(), Checks.IMPOSSIBLE));
        Checks.test("Promise 20: back to the first state, and no farther", () -> {
            HunkSlides x = new HunkSlides();
            x.edit(0, 0, 0);
            Checks.due("undo()", x.undo(), 0);
            Checks.due("undo()", x.undo(), Checks.IMPOSSIBLE);
            Checks.due("looks", Checks.looks(x), Checks.looks(new HunkSlides()));
        });
        undone("load of the old text", x -> Checks.type(x, "ab").load(0), 2);
        undone("load of the new text", x -> Checks.type(x, "ab").load(1), 2);
        undone("load of the third text", x -> Checks.type(x, "ab").load(2), 2);
        undone("edit: a line put in", x -> x.edit(0, 3, 6), 4);
        undone("edit: a line put in place", x -> x.edit(1, 0, 16), 1);
        undone("edit: a line put out", x -> x.edit(2, 0, 20), 2);
        undone("swap", x -> x.swap(0, 2), 2);
        undone("set of AROUND", x -> x.set(0, 3), 0);
        undone("set of SLIDE", x -> x.set(1, 1), 0);
        undone("lay, with the numbers of patches", x -> x.lay(false), 1);
        undone("restore", x -> x.restore(), 2);
        Checks.test("Promise 20: the pad stays", () -> {
            HunkSlides x = Checks.padded("ab");
            x.load(0);
            Checks.type(x, "c!");
            Checks.due("undo()", x.undo(), 0);
            Checks.due("count(16)", x.count(16), 2);
            Checks.due("fault()", x.fault(), 1);
        });
        Checks.test("Promise 20: the snapshot stays, also one taken before or after the change", () -> {
            HunkSlides x = Checks.load(new HunkSlides(), "a", 0);
            x.save();
            x.edit(0, 0, 1);
            x.undo();
            Checks.due("restore(), of before", x.restore(), 1);
            Checks.due("texts", Checks.texts(x), "a||");
            x.edit(1, 0, 1);
            x.save();
            x.undo();
            Checks.due("restore(), of after", x.restore(), 2);
            Checks.due("texts", Checks.texts(x), "a|b|");
        });
    }

    private static void history() {
        Checks.test("Changes: at most 4 states are kept, and if there are 5 the oldest one is dropped", () -> {
            HunkSlides x = new HunkSlides();
            for (int i = 0; i < 4; i++) {
                x.edit(0, i, i);
                Checks.due("count(17)", x.count(17), i + 1);
            }
            x.edit(0, 4, 4);
            Checks.due("count(17), of five changes", x.count(17), 4);
            String[] states = {"abcd", "abc", "ab", "a"};
            for (int i = 0; i < 4; i++) {
                Checks.due("undo()", x.undo(), 3 - i);
                Checks.due("text 0", Checks.text(x, 0), states[i]);
            }
            Checks.due("undo(), the first state was dropped", x.undo(), Checks.IMPOSSIBLE);
            Checks.due("text 0", Checks.text(x, 0), "a");
        });
        Checks.test("Changes: exactly four changes can all be undone", () -> {
            HunkSlides x = new HunkSlides();
            for (int i = 0; i < 4; i++) x.edit(0, i, i);
            for (int i = 3; i >= 0; i--) Checks.due("undo()", x.undo(), i);
            Checks.due("looks", Checks.looks(x), Checks.looks(new HunkSlides()));
        });
        Checks.test("Changes: many changes leave the latest 4 states", () -> {
            HunkSlides x = new HunkSlides();
            for (int i = 0; i < 13; i++) x.edit(1, i, i % 9);
            Checks.due("count(17)", x.count(17), 4);
            for (int i = 3; i >= 0; i--) Checks.due("undo()", x.undo(), i);
            Checks.due("text 1", Checks.text(x, 1), "abcdef.{}");
        });
        Checks.test("Changes: a full history with a state undone takes another one", () -> {
            HunkSlides x = new HunkSlides();
            for (int i = 0; i < 5; i++) x.edit(0, i, i);
            x.undo();
            x.edit(0, 0, 20);
            Checks.due("count(17)", x.count(17), 4);
            x.undo();
            Checks.due("text 0", Checks.text(x, 0), "abcd");
            for (int i = 2; i >= 0; i--) Checks.due("undo()", x.undo(), i);
            Checks.due("text 0", Checks.text(x, 0), "a");
        });
        Checks.test("Changes: each change drops the oldest state of a full history", () -> {
            dropsOldest("load", x -> x.load(2));
            dropsOldest("edit", x -> x.edit(0, 0, 20));
            dropsOldest("swap", x -> x.swap(0, 1));
            dropsOldest("set", x -> x.set(1, 1));
            dropsOldest("lay", x -> x.lay(true));
            dropsOldest("restore", x -> x.restore());
        });
        Checks.test("Changes: load, edit, swap, set, lay and restore, also if nothing is different then", () -> {
            recorded("load", x -> x.load(1), true);
            recorded("edit", x -> x.edit(0, 0, 10), true);
            recorded("swap", x -> x.swap(1, 2), true);
            recorded("set", x -> x.set(0, 1), true);
            recorded("lay", x -> x.lay(false), true);
            recorded("restore", x -> x.restore(), true);
        });
        Checks.test("Changes: no other call is one", () -> {
            recorded("append", x -> x.append(97), false);
            recorded("clear", x -> x.clear(), false);
            recorded("fault", x -> x.fault(), false);
            recorded("line", x -> x.line(0, 0), false);
            recorded("distance", x -> x.distance(0), false);
            recorded("view", x -> x.view(0, 0), false);
            recorded("hunk", x -> x.hunk(0, 0), false);
            recorded("whyNot", x -> x.whyNot(0, true), false);
            recorded("count", x -> x.count(17), false);
            recorded("alike", x -> x.alike(), false);
            recorded("ifLaid", x -> x.ifLaid(0, false, 0), false);
            recorded("ifAround", x -> x.ifAround(0), false);
            recorded("least", x -> x.least(), false);
            recorded("save", x -> x.save(), false);
        });
        Checks.test("Looks: nothing is changed", () -> Checks.changesNothing("all looks",
            () -> Checks.of("abc.", "a{c", "abc."), x -> Checks.looks(x)));
    }

    private static void dropsOldest(String named, Consumer<HunkSlides> change) {
        HunkSlides x = new HunkSlides();
        x.save();
        for (int i = 0; i < 4; i++) x.edit(0, i, i);
        Checks.type(x, "e");
        change.accept(x);
        Checks.due("count(17) after " + named, x.count(17), 4);
        String[] states = {"abcd||", "abc||", "ab||", "a||"};
        for (int i = 0; i < 4; i++) {
            Checks.due("undo() after " + named, x.undo(), 3 - i);
            Checks.due("the state then", Checks.state(x), states[i] + " 0 0 1 0");
        }
        Checks.due("undo() of the dropped state", x.undo(), Checks.IMPOSSIBLE);
    }

    private static void recorded(String named, Consumer<HunkSlides> call, boolean change) {
        HunkSlides x = Checks.type(Checks.of("a", "a", "a"), "a");
        x.save();
        String before = Checks.state(x);
        call.accept(x);
        Checks.due("count(17) after " + named, x.count(17), change ? 4 : 3);
        if (change) Checks.due("the state after " + named, Checks.state(x), before);
    }

    /** Two hunks, one of them plain, with other views and patches behind each change. */
    private static HunkSlides made() {
        HunkSlides x = Checks.of(".ab.abc", ".ab.ab.ab{", ".ab.abc");
        x.edit(2, 0, 20);
        x.save();
        x.edit(2, 0, 6);
        return Checks.type(x, "a}");
    }

    private static void looksAfter(String change, ToIntFunction<HunkSlides> done) {
        sameAtOnce(change, done, "view(w)", x -> Checks.row(5, w -> x.view(4, w)));
        sameAtOnce(change, done, "hunk(0, w)", x -> Checks.hunk(x, 0));
        sameAtOnce(change, done, "whyNot(0, up)", x -> String.valueOf(x.whyNot(0, false)));
        sameAtOnce(change, done, "whyNot(0, down)", x -> String.valueOf(x.whyNot(0, true)));
        for (int w = 0; w < 18; w++) {
            int what = w;
            sameAtOnce(change, done, "count(" + w + ")", x -> String.valueOf(x.count(what)));
        }
        sameAtOnce(change, done, "alike()", x -> String.valueOf(x.alike()));
        sameAtOnce(change, done, "distance(0)", x -> String.valueOf(x.distance(0)));
        sameAtOnce(change, done, "distance(1)", x -> String.valueOf(x.distance(1)));
        sameAtOnce(change, done, "ifLaid(0, false, 0)", x -> String.valueOf(x.ifLaid(0, false, 0)));
        sameAtOnce(change, done, "ifLaid(0, true, 1)", x -> String.valueOf(x.ifLaid(0, true, 1)));
        sameAtOnce(change, done, "ifAround(0)", x -> String.valueOf(x.ifAround(0)));
        sameAtOnce(change, done, "least()", x -> String.valueOf(x.least()));
        sameAtOnce(change, done, "lay(false)", x -> x.lay(false) + Checks.state(x));
        sameAtOnce(change, done, "lay(true)", x -> x.lay(true) + Checks.state(x));
        sameAtOnce(change, done, "save()", x -> String.valueOf(x.save()));
    }

    /** A look answers the same as the first one after a change, after other looks, and with looks before the change. */
    private static void sameAtOnce(String change, ToIntFunction<HunkSlides> done, String look, Function<HunkSlides, String> told) {
        HunkSlides late = made();
        done.applyAsInt(late);
        Checks.looks(late);
        String due = told.apply(late);
        HunkSlides first = made();
        done.applyAsInt(first);
        Checks.due(look + " at once after " + change, told.apply(first), due);
        HunkSlides again = made();
        Checks.looks(again);
        done.applyAsInt(again);
        Checks.due(look + " after looks and " + change, told.apply(again), due);
    }

    private static void looks() {
        Checks.test("Looks: they tell the texts and settings as they are then", () -> {
            looksAfter("load", x -> x.load(1));
            looksAfter("edit", x -> x.edit(1, 7, 16));
            looksAfter("swap", x -> x.swap(0, 1));
            looksAfter("set of AROUND", x -> x.set(0, 0));
            looksAfter("set of SLIDE", x -> x.set(1, 1));
            looksAfter("lay", x -> x.lay(false));
            looksAfter("undo", x -> x.undo());
            looksAfter("restore", x -> x.restore());
        });
        Checks.test("Promise 13: a hunk that was a plain one is none then", () -> {
            HunkSlides x = Checks.of("a", "ab");
            Checks.due("hunk(0, 3)", x.hunk(0, 3), 1);
            x.edit(0, 1, 2);
            Checks.due("hunk(0, 3)", x.hunk(0, 3), 0);
            x.edit(0, 1, 20);
            Checks.due("hunk(0, 3)", x.hunk(0, 3), 1);
        });
        Checks.test("Promise 9: patches that fit are laid after some that were refused", () -> {
            HunkSlides x = Checks.of("", "a", Checks.times("b", 14));
            Checks.due("lay(false)", x.lay(false), Checks.LIMIT);
            Checks.due("lay(true)", x.lay(true), 0);
            x.edit(2, 0, 20);
            Checks.due("lay(false)", x.lay(false), 1);
            Checks.due("texts", Checks.texts(x), "|a|a" + Checks.times("b", 13));
        });
    }

    private static void save() {
        Checks.test("Promise 21: returns the distance of the old and the new text", () -> {
            Checks.due("save()", new HunkSlides().save(), 0);
            Checks.due("save()", Checks.of("ab", "bc", "a").save(), 2);
            Checks.due("save()", Checks.of(A14, "").save(), 14);
            Checks.due("save()", Checks.of(A14, Checks.times("b", 14)).save(), 28);
        });
        Checks.test("Promise 21: nothing but the snapshot is another one", () -> {
            HunkSlides x = Checks.of("ab", "b", "a");
            Checks.type(x, "a!");
            String before = Checks.looks(x);
            x.save();
            Checks.due("looks", Checks.looks(x), before);
        });
        Checks.test("Promise 21: in place of the one that was", () -> {
            HunkSlides x = Checks.of("ab", "b", "a");
            x.save();
            Checks.load(x, "cc", 0);
            Checks.due("save()", x.save(), 3);
            Checks.load(x, "", 0);
            Checks.due("restore()", x.restore(), 3);
            Checks.due("texts", Checks.texts(x), "cc|b|a");
        });
        Checks.test("Promise 21: a snapshot of a new object", () -> {
            HunkSlides x = new HunkSlides();
            Checks.due("save()", x.save(), 0);
            x.edit(0, 0, 0);
            x.set(0, 3);
            x.set(1, 1);
            Checks.due("restore()", x.restore(), 0);
            Checks.due("state", Checks.state(x), "|| 0 0 1 0");
        });
        Checks.test("Promise 21: later changes do not change the snapshot", () -> {
            HunkSlides x = Checks.of("ab", "b", "a");
            x.save();
            x.edit(0, 0, 20);
            x.edit(1, 0, 20);
            x.edit(2, 0, 20);
            x.restore();
            Checks.due("texts", Checks.texts(x), "ab|b|a");
        });
    }

    private static void restore() {
        Checks.test("Promise 22: NOT_POSSIBLE if there is none", () -> {
            Checks.due("restore()", new HunkSlides().restore(), Checks.IMPOSSIBLE);
            Checks.due("restore()", Checks.of("ab", "b", "a").restore(), Checks.IMPOSSIBLE);
        });
        Checks.test("Promise 22: everything but the pad and the history", () -> {
            HunkSlides x = Checks.around(2, "acb", "c", "acf");
            x.set(0, 0);
            x.set(1, 1);
            x.lay(false);
            x.save();
            String held = Checks.state(x);
            Checks.due("the state", held, "acb|c|cf 1 1 0 1");
            Checks.load(x, "d", 0);
            Checks.load(x, "e", 1);
            Checks.load(x, "f", 2);
            x.set(0, 3);
            x.set(1, 0);
            x.lay(true);
            Checks.type(x, "ab!");
            Checks.due("restore()", x.restore(), 2);
            Checks.due("the state", Checks.state(x), held);
            Checks.due("the length of the pad", x.count(16), 3);
            Checks.due("states in the history", x.count(17), 4);
        });
        Checks.test("Promise 22: the snapshot stays", () -> {
            HunkSlides x = Checks.of("ab", "b", "a");
            x.save();
            for (int i = 0; i < 3; i++) {
                Checks.load(x, "", i);
                Checks.due("restore()", x.restore(), 1);
                Checks.due("texts", Checks.texts(x), "ab|b|a");
            }
        });
        Checks.test("Promise 22: at once after save it is a change that changes nothing", () -> {
            HunkSlides x = Checks.load(new HunkSlides(), "a", 0);
            x.save();
            Checks.due("restore()", x.restore(), 1);
            Checks.due("count(17)", x.count(17), 2);
            Checks.due("undo()", x.undo(), 1);
            Checks.due("texts", Checks.texts(x), "a||");
        });
        Checks.test("Promise 22: with a full history the oldest state is dropped", () -> {
            HunkSlides x = new HunkSlides();
            x.save();
            for (int i = 0; i < 4; i++) x.edit(0, i, i);
            Checks.due("restore()", x.restore(), 0);
            Checks.due("count(17)", x.count(17), 4);
            Checks.due("past", Checks.past(x), "|| 0 0 1 0 < abcd|| 0 0 1 0 < abc|| 0 0 1 0 < ab|| 0 0 1 0 < a|| 0 0 1 0 < ");
        });
    }

    private static void manyCalls() {
        Checks.test("What it is: 512 calls, all of them changes", () -> {
            HunkSlides x = new HunkSlides();
            for (int call = 1; call <= 510; call++) {
                Checks.due("set(0, value)", x.set(0, call % 4), call == 1 ? 1 : (call - 1) % 4);
            }
            Checks.due("count(17), the 511th call", x.count(17), 4);
            Checks.due("undo(), the 512th call", x.undo(), 3);
        });
        Checks.test("What it is: 512 calls, most of them of lay: patches are counted so far", () -> {
            HunkSlides x = Checks.around(0, "{ab{cd{ef{ab{", "a}bc}de}fa}b", "{ab{cd{ef{ab{");
            // Making it took 45 calls.
            for (int call = 46; call <= 510; call++) Checks.due("lay", x.lay(call % 2 == 1), 9);
            Checks.due("count(12), the 511th call", x.count(12), 4185);
            Checks.due("count(13), the 512th call", x.count(13), 0);
        });
        Checks.test("What it is: 512 calls, most of them of lay: patches left out are counted so far", () -> {
            HunkSlides x = Checks.of("{ab{cd{ef{ab{c", "a}bc}de}fa}bc}");
            // Making it took 34 calls.
            for (int call = 35; call <= 510; call++) Checks.due("lay", x.lay(call % 2 == 0), 0);
            Checks.due("count(12), the 511th call", x.count(12), 0);
            Checks.due("count(13), the 512th call", x.count(13), 4760);
        });
        Checks.test("What it is: 512 calls of the pad", () -> {
            HunkSlides x = new HunkSlides();
            for (int call = 1; call <= 492; call++) {
                Checks.due("a call of the pad", call % 41 == 0 ? x.clear() : x.append(97), call % 41 == 0 ? 40 : call % 41);
            }
            for (int call = 493; call <= 512; call++) Checks.due("append(97)", x.append(97), call - 492);
        });
        Checks.test("What it is: 512 calls that are refused", () -> {
            HunkSlides x = new HunkSlides();
            for (int call = 1; call <= 512; call++) Checks.due("undo()", x.undo(), Checks.IMPOSSIBLE);
        });
    }

    public static void main(String[] args) {
        least();
        undo();
        history();
        looks();
        save();
        restore();
        manyCalls();
        Checks.end("HistoryEdgesTest");
    }
}
