/** Promise 1: a new object has no hints. */
public final class NewObjectTest {
    public static void main(String[] args) {
        SkyscraperGrid x = new SkyscraperGrid();
        Check.due("solutions()", 576, x.solutions());
        Check.due("fixedCells()", 0, x.fixedCells());
        for (int a = 0; a < 4; a++) {
            for (int b = 0; b < 4; b++) {
                Check.due("given taken away", 0, x.given(a, b, 0));
                Check.due("clue taken away", 0, x.clue(a, b, 0));
                Check.due("sign to the right taken away", b < 3 ? 0 : -1, x.sign(a, b, false, 0));
                Check.due("sign downwards taken away", a < 3 ? 0 : -1, x.sign(a, b, true, 0));
            }
        }
        Check.due("solutions() with nothing taken away", 576, x.solutions());
        objectsAreApart();
        Check.end();
    }

    private static void objectsAreApart() {
        SkyscraperGrid x = new SkyscraperGrid();
        SkyscraperGrid y = new SkyscraperGrid();
        x.given(0, 0, 1);
        x.clue(1, 1, 2);
        x.sign(2, 2, true, 1);
        Check.due("solutions() of another object", 576, y.solutions());
        Check.due("solutions() of a later object", 576, new SkyscraperGrid().solutions());
    }
}
