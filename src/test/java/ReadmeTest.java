/** The examples of README.md answer what it says. */
public final class ReadmeTest {
    private static void looks(HunkSlides x) {
        Checks.due("load(0)", Checks.type(x, ".ab.ab").load(0), 6);
        Checks.due("load(1)", Checks.type(x, ".ab.ab.ab").load(1), 9);
        Checks.due("distance(0)", x.distance(0), 3);
        Checks.due("count(7)", x.count(7), 1);
        Checks.due("hunk(0, 0)", x.hunk(0, 0), 6);
        Checks.due("hunk(0, 4)", x.hunk(0, 4), 6);
        Checks.due("hunk(0, 7)", x.hunk(0, 7), 6);
        Checks.due("set(SLIDE, 1)", x.set(HunkSlides.SLIDE, 1), 0);
        Checks.due("hunk(0, 0)", x.hunk(0, 0), 4);
        Checks.due("view(4, 0)", x.view(4, 0), 2);
        Checks.due("whyNot(0, true)", x.whyNot(0, true), 0);
    }

    private static void patches(HunkSlides x) {
        Checks.due("load(2)", Checks.type(x, "c.ab.ab").load(2), 7);
        Checks.due("ifLaid(0, false, 0)", x.ifLaid(0, false, 0), 4);
        Checks.due("ifLaid(0, false, 1)", x.ifLaid(0, false, 1), 101);
        Checks.due("lay(false)", x.lay(false), 1);
        Checks.due("count(2)", x.count(2), 10);
        Checks.due("lay(true)", x.lay(true), 1);
        Checks.due("undo()", x.undo(), 3);
    }

    public static void main(String[] args) {
        Checks.test("README.md, the examples", () -> {
            HunkSlides x = new HunkSlides();
            looks(x);
            patches(x);
        });
        Checks.end("ReadmeTest");
    }
}
