/** Promise 10: fixedCells. */
public final class FixedCellsTest {
    public static void main(String[] args) {
        SkyscraperGrid x = new SkyscraperGrid();
        Check.due("fixedCells() without hints", 0, x.fixedCells());
        x.given(0, 0, 4);
        Check.due("fixedCells() with one given", 1, x.fixedCells());
        x.given(0, 1, 3);
        Check.due("fixedCells() with two givens", 2, x.fixedCells());
        x.given(0, 2, 2);
        Check.due("fixedCells() with a row but one cell", 4, x.fixedCells());
        x.given(0, 3, 2);
        Check.due("fixedCells() without solutions", 0, x.fixedCells());
        x.given(0, 3, 0);
        Check.due("fixedCells() after taking it away", 4, x.fixedCells());
        Check.due("fixedCells() solved", 16, Inputs.solved().fixedCells());
        Check.due("fixedCells() solved as the last", 16, Inputs.solvedAsLast().fixedCells());
        everyCellCounts();
        Check.end();
    }

    private static void everyCellCounts() {
        for (int cell = 0; cell < 16; cell++) {
            for (int h = 1; h <= 4; h++) {
                SkyscraperGrid x = new SkyscraperGrid();
                x.given(cell / 4, cell % 4, h);
                Check.due("fixedCells() with cell " + cell + " given as " + h, 1, x.fixedCells());
            }
        }
        SkyscraperGrid whole = new SkyscraperGrid();
        for (int cell = 0; cell < 16; cell++) {
            whole.given(cell / 4, cell % 4, Inputs.solvedHeight(cell / 4, cell % 4));
        }
        Check.due("fixedCells() with every cell given", 16, whole.fixedCells());
        whole.given(0, 0, 2);
        Check.due("fixedCells() with every cell given and one of them wrong", 0, whole.fixedCells());
    }
}
