import java.util.ArrayList;
import java.util.List;

/** What the document's sentences say of several answers together, for all pairs of short texts. */
public final class PropertiesTest {
    /** All texts of so many lines at most, of the given signs. */
    private static List<String> textsOf(String signs, int most) {
        List<String> texts = new ArrayList<>();
        texts.add("");
        for (int i = 0; i < texts.size(); i++) {
            if (texts.get(i).length() == most) break;
            for (char c : signs.toCharArray()) texts.add(texts.get(i) + c);
        }
        return texts;
    }

    /** A sentence that is tried on a pair of texts. */
    private interface Sentence {
        void of(String oldText, String newText, int slide);
    }

    private static void forAll(String title, Sentence sentence) {
        Checks.test(title, () -> {
            for (String[] kind : new String[][] {{"a.{}", "3"}, {"a.", "5"}, {"{}", "5"}}) {
                List<String> texts = textsOf(kind[0], Integer.parseInt(kind[1]));
                for (String oldText : texts) {
                    for (String newText : texts) {
                        sentence.of(oldText, newText, 0);
                        sentence.of(oldText, newText, 1);
                    }
                }
            }
        });
    }

    private static HunkSlides made(String oldText, String newText, String third, int slide) {
        HunkSlides x = new HunkSlides();
        Checks.type(x, oldText).load(0);
        Checks.type(x, newText).load(1);
        Checks.type(x, third).load(2);
        x.set(HunkSlides.SLIDE, slide);
        return x;
    }

    private static void lines(String oldText, String newText, int slide) {
        HunkSlides x = made(oldText, newText, "", slide);
        String pair = " of " + oldText + " and " + newText;
        int kept = x.count(4);
        Checks.due("kept lines and those that go" + pair, kept + x.count(5), oldText.length());
        Checks.due("kept lines and those that come" + pair, kept + x.count(6), newText.length());
        Checks.due("lines of the view" + pair, x.count(3), kept + x.count(5) + x.count(6));
        Checks.due("distance(0)" + pair, x.distance(0), x.count(5) + x.count(6));
        Checks.due("distance(1)" + pair, x.distance(1), x.distance(0));
        int all = oldText.length() + newText.length();
        Checks.due("alike()" + pair, x.alike(), all == 0 ? 1.0 : 2.0 * kept / all);
    }

    /** The view holds both texts in their order, with hunks that are as long as possible. */
    private static void view(String oldText, String newText, int slide) {
        HunkSlides x = made(oldText, newText, "", slide);
        String pair = " of " + oldText + " and " + newText;
        int oldLines = 0, newLines = 0, hunks = 0, kindAhead = 0;
        for (int p = 0; x.view(p, 0) != Checks.NONE; p++) {
            int kind = x.view(p, 0);
            if (kind != 0 && kindAhead == 0) Checks.due("hunk(h, 0)" + pair, x.hunk(hunks++, 0), p);
            Checks.due("view(p, 4)" + pair, x.view(p, 4), kind == 0 ? Checks.NONE : hunks - 1);
            Checks.due("view(p, 2)" + pair, x.view(p, 2), kind == 2 ? Checks.NONE : oldLines);
            Checks.due("view(p, 3)" + pair, x.view(p, 3), kind == 1 ? Checks.NONE : newLines);
            if (kind != 2) Checks.due("view(p, 1)" + pair, x.view(p, 1), x.line(0, oldLines++));
            if (kind != 1) Checks.due("view(p, 1)" + pair, x.view(p, 1), x.line(1, newLines++));
            kindAhead = kind;
        }
        Checks.due("old lines" + pair, oldLines, oldText.length());
        Checks.due("new lines" + pair, newLines, newText.length());
        Checks.due("hunks" + pair, x.count(7), hunks);
    }

    private static void hunks(String oldText, String newText, int slide) {
        HunkSlides x = made(oldText, newText, "", slide);
        String pair = " of " + oldText + " and " + newText;
        int goes = 0, comes = 0, plain = 0, sliding = 0, worth = 0;
        for (int h = 0; h < x.count(7); h++) {
            boolean one = x.hunk(h, 1) == 0 || x.hunk(h, 2) == 0;
            boolean up = x.hunk(h, 4) > 0, down = x.hunk(h, 5) > 0;
            Checks.due("hunk(h, 3)" + pair, x.hunk(h, 3), one ? 1 : 0);
            Checks.due("whyNot(h, false) is 0" + pair, x.whyNot(h, false) == 0 ? 1 : 0, up ? 1 : 0);
            Checks.due("whyNot(h, true) is 0" + pair, x.whyNot(h, true) == 0 ? 1 : 0, down ? 1 : 0);
            Checks.due("whyNot(h, false) is 1" + pair, x.whyNot(h, false) == 1 ? 1 : 0, one ? 0 : 1);
            if (!up && !down) Checks.due("hunk(h, 7)" + pair, x.hunk(h, 7), x.hunk(h, 6));
            Checks.due("hunk(h, 7) is less" + pair, x.hunk(h, 7) < x.hunk(h, 6) ? 1 : 0, 0);
            goes += x.hunk(h, 1);
            comes += x.hunk(h, 2);
            plain += x.hunk(h, 3);
            sliding += up || down ? 1 : 0;
            worth += x.hunk(h, 6);
        }
        Checks.due("count(5)" + pair, x.count(5), goes);
        Checks.due("count(6)" + pair, x.count(6), comes);
        Checks.due("count(8)" + pair, x.count(8), plain);
        Checks.due("count(9)" + pair, x.count(9), sliding);
        Checks.due("count(10)" + pair, x.count(10), worth);
    }

    /** Settling moves hunks alone; the last hunk has no other one that slides behind it. */
    private static void settled(String oldText, String newText, int slide) {
        HunkSlides x = made(oldText, newText, "", 1);
        HunkSlides unsettled = made(oldText, newText, "", 0);
        String pair = " of " + oldText + " and " + newText;
        for (int w : new int[] {3, 4, 5, 6, 7, 8}) Checks.due("count(" + w + ")" + pair, x.count(w), unsettled.count(w));
        int last = x.count(7) - 1;
        for (int h = 0; h <= last; h++) {
            Checks.due("hunk(h, 1)" + pair, x.hunk(h, 1), unsettled.hunk(h, 1));
            Checks.due("hunk(h, 2)" + pair, x.hunk(h, 2), unsettled.hunk(h, 2));
            if (x.hunk(h, 3) == 0) Checks.due("a hunk that is not plain" + pair, x.hunk(h, 0), unsettled.hunk(h, 0));
        }
        if (last >= 0) Checks.due("the worth of the last hunk" + pair, x.hunk(last, 6), x.hunk(last, 7));
    }

    /** All patches fit at their places in the text that they were made of, and are taken back. */
    private static void laid(String oldText, String newText, int slide) {
        for (int around = 0; around <= 3; around++) {
            HunkSlides x = made(oldText, newText, oldText, slide);
            String pair = " of " + oldText + " and " + newText + ", " + around + " around";
            x.set(HunkSlides.AROUND, around);
            int hunks = x.count(7);
            for (int h = 0; h < hunks; h++) Checks.due("ifLaid(h, false, 1)" + pair, x.ifLaid(h, false, 1), 100);
            Checks.due("lay(false)" + pair, x.lay(false), hunks);
            Checks.due("the third text" + pair, Checks.text(x, 2), newText);
            for (int h = 0; h < hunks; h++) Checks.due("ifLaid(h, true, 1)" + pair, x.ifLaid(h, true, 1), 100);
            Checks.due("lay(true)" + pair, x.lay(true), hunks);
            Checks.due("the third text" + pair, Checks.text(x, 2), oldText);
            Checks.due("count(12)" + pair, x.count(12), 2 * hunks);
            Checks.due("count(13)" + pair, x.count(13), 0);
        }
    }

    /** What would be is what is then, on a third text that patches do not always fit. */
    private static void wouldBe(String oldText, String newText, int slide) {
        String third = "a" + newText + oldText;
        for (int around = 0; around <= 3; around++) {
            HunkSlides x = made(oldText, newText, third, slide);
            String pair = " of " + oldText + " and " + newText + ", " + around + " around";
            int laid = x.ifAround(around);
            x.set(HunkSlides.AROUND, around);
            int found = 0;
            int hunks = x.count(7);
            for (int h = 0; h < hunks; h++) found += x.ifLaid(h, false, 0) == Checks.NONE ? 0 : 1;
            Checks.due("ifAround" + pair, laid, found);
            int answer = x.lay(false);
            if (answer == Checks.LIMIT) continue;
            Checks.due("lay(false)" + pair, answer, laid);
            Checks.due("count(12)" + pair, x.count(12), laid);
            Checks.due("count(13)" + pair, x.count(13), hunks - laid);
        }
    }

    private static void least(String oldText, String newText, int slide) {
        HunkSlides x = made(oldText, newText, "", slide);
        int best = Checks.IMPOSSIBLE;
        int bestApart = Checks.MAX;
        for (int line = 0; line < oldText.length(); line++) {
            x.edit(0, line, 20);
            if (x.distance(0) < bestApart) {
                bestApart = x.distance(0);
                best = line;
            }
            x.undo();
        }
        Checks.due("least() of " + oldText + " and " + newText, x.least(), best);
    }

    /** The distance is the same both ways round, wherever a call returns it. */
    private static void distances(String oldText, String newText, int slide) {
        HunkSlides x = made(oldText, newText, "", slide);
        String pair = " of " + oldText + " and " + newText;
        int apart = x.distance(0);
        Checks.due("save()" + pair, x.save(), apart);
        Checks.due("swap(0, 1)" + pair, x.swap(0, 1), apart);
        Checks.due("distance(1)" + pair, x.distance(1), apart);
        Checks.due("swap(1, 2)" + pair, x.swap(1, 2), newText.length());
        Checks.due("restore()" + pair, x.restore(), apart);
    }

    public static void main(String[] args) {
        forAll("Promises 11, 15, 16: lines that are kept, go and come", PropertiesTest::lines);
        forAll("Promise 12: the view holds both texts", PropertiesTest::view);
        forAll("Promises 13, 14, 15: the numbers of hunks", PropertiesTest::hunks);
        forAll("Promise 12, Terms: to settle moves plain hunks alone, and they never touch", PropertiesTest::settled);
        forAll("Promise 9: patches are laid on their own text forth and back", PropertiesTest::laid);
        forAll("Promises 17, 18: what would be laid is laid then", PropertiesTest::wouldBe);
        forAll("Promise 19: least by taking out each line", PropertiesTest::least);
        forAll("Promises 7, 21, 22: the distance that changes return", PropertiesTest::distances);
        Checks.end("PropertiesTest");
    }
}
