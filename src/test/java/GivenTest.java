/** Promise 2: given. */
public final class GivenTest {
    public static void main(String[] args) {
        everyCellAndHeight();
        eachCellHasItsOwn();
        contradiction();
        wrongInputs();
        Check.end();
    }

    private static void everyCellAndHeight() {
        SkyscraperGrid x = new SkyscraperGrid();
        for (int row = 0; row < 4; row++) {
            for (int column = 0; column < 4; column++) {
                int old = 0;
                for (int h = 4; h >= 0; h--) {
                    String call = "given(" + row + ", " + column + ", " + h + ")";
                    Check.due(call, old, x.given(row, column, h));
                    Check.due("solutions() after " + call, h == 0 ? 576 : 144, x.solutions());
                    Check.due("possible() after " + call, h == 0 ? 15 : 1 << (h - 1), x.possible(row, column));
                    old = h;
                }
            }
        }
    }

    private static void eachCellHasItsOwn() {
        SkyscraperGrid x = new SkyscraperGrid();
        for (int cell = 0; cell < 16; cell++) {
            x.given(cell / 4, cell % 4, cell * 7 % 4 + 1);
        }
        for (int cell = 0; cell < 16; cell++) {
            Check.due("old given of cell " + cell, cell * 7 % 4 + 1, x.given(cell / 4, cell % 4, 0));
        }
    }

    private static void contradiction() {
        SkyscraperGrid x = new SkyscraperGrid();
        Check.due("given(1, 0, 2)", 0, x.given(1, 0, 2));
        Check.due("given(1, 3, 2), twice in a row", 0, x.given(1, 3, 2));
        Check.due("solutions()", 0, x.solutions());
        Check.due("given(1, 3, 0)", 2, x.given(1, 3, 0));
        Check.due("solutions()", 144, x.solutions());
        Check.due("given(3, 0, 2), twice in a column", 0, x.given(3, 0, 2));
        Check.due("solutions()", 0, x.solutions());
        Check.due("given(3, 0, 3)", 2, x.given(3, 0, 3));
        Check.due("solutions()", 48, x.solutions());
    }

    private static void wrongInputs() {
        SkyscraperGrid x = Inputs.solved();
        for (int bad : Inputs.NOT_0_TO_3) {
            for (int good = 0; good < 4; good++) {
                Check.due("given(" + bad + ", " + good + ", 4)", -1, x.given(bad, good, 4));
                Check.due("given(" + good + ", " + bad + ", 0)", -1, x.given(good, bad, 0));
            }
            Check.due("given(" + bad + ", " + bad + ", 1)", -1, x.given(bad, bad, 1));
        }
        for (int bad : Inputs.NOT_0_TO_4) {
            Check.due("given(0, 0, " + bad + ")", -2, x.given(0, 0, bad));
            Check.due("given(3, 3, " + bad + ")", -2, x.given(3, 3, bad));
        }
        for (int cell = 0; cell < 16; cell++) {
            int row = cell / 4;
            int column = cell % 4;
            int kept = row < 3 && column < 3 ? Inputs.solvedHeight(row, column) : 0;
            Check.due("given of cell " + cell + " after wrong calls", kept, x.given(row, column, kept));
        }
        Check.due("solutions() after wrong calls", 1, x.solutions());
    }
}
