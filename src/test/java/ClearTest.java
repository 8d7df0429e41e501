/** Promise 5: clear. */
public final class ClearTest {
    public static void main(String[] args) {
        SkyscraperGrid x = new SkyscraperGrid();
        x.clear();
        Check.due("solutions() of a new object, cleared", 576, x.solutions());
        setEveryHint(x);
        Check.due("solutions() with contradictions", 0, x.solutions());
        x.clear();
        Check.due("solutions() after clear()", 576, x.solutions());
        Check.due("fixedCells() after clear()", 0, x.fixedCells());
        Check.due("possible(3, 3) after clear()", 15, x.possible(3, 3));
        noHintIsLeft(x);
        setEveryHint(x);
        x.clear();
        x.clear();
        Check.due("given(1, 1, 3) after clear() twice", 0, x.given(1, 1, 3));
        Check.due("solutions()", 144, x.solutions());
        Check.end();
    }

    private static void setEveryHint(SkyscraperGrid x) {
        for (int a = 0; a < 4; a++) {
            for (int b = 0; b < 4; b++) {
                x.given(a, b, 4);
                x.clue(a, b, 3);
                x.sign(a, b, false, 1);
                x.sign(a, b, true, 2);
            }
        }
    }

    private static void noHintIsLeft(SkyscraperGrid x) {
        for (int a = 0; a < 4; a++) {
            for (int b = 0; b < 4; b++) {
                Check.due("given(" + a + ", " + b + ", 0)", 0, x.given(a, b, 0));
                Check.due("clue(" + a + ", " + b + ", 0)", 0, x.clue(a, b, 0));
                Check.due("sign(" + a + ", " + b + ", false, 0)", b < 3 ? 0 : -1, x.sign(a, b, false, 0));
                Check.due("sign(" + a + ", " + b + ", true, 0)", a < 3 ? 0 : -1, x.sign(a, b, true, 0));
            }
        }
    }
}
