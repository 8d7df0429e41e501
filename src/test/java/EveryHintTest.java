/**
 * Terms: every hint there is, set beside every grid without a repeated height. Givens for all cells leave
 * that grid alone, so solutions() then says whether the hint holds in it. An object makes 440 calls.
 */
public final class EveryHintTest {
    private final int[][] grid;
    private final SkyscraperGrid x = new SkyscraperGrid();

    private EveryHintTest(int[][] grid) {
        this.grid = grid;
    }

    public static void main(String[] args) {
        int grids = 0;
        for (int[][] grid : new Model().solutions()) {
            EveryHintTest test = new EveryHintTest(grid);
            test.giveAllCells();
            test.everyGiven();
            test.everyClue();
            test.everySign();
            grids++;
        }
        Check.due("grids gone through", 576, grids);
        Check.end();
    }

    private void giveAllCells() {
        for (int cell = 0; cell < 16; cell++) {
            x.given(cell / 4, cell % 4, grid[cell / 4][cell % 4]);
        }
        for (int cell = 0; cell < 16; cell++) {
            Check.due("height of cell " + cell, grid[cell / 4][cell % 4], x.height(0, cell / 4, cell % 4));
        }
    }

    /** "a GIVEN says the height of a cell" */
    private void everyGiven() {
        for (int cell = 0; cell < 16; cell++) {
            int own = grid[cell / 4][cell % 4];
            for (int h = 1; h <= 4; h++) {
                x.given(cell / 4, cell % 4, h);
                holdsOnlyIf(h == own, "given " + h + " of cell " + cell);
            }
            x.given(cell / 4, cell % 4, own);
        }
    }

    /** "a CLUE [..] says how many of its cells are VISIBLE from that end" */
    private void everyClue() {
        for (int side = 0; side < 4; side++) {
            for (int index = 0; index < 4; index++) {
                int count = visible(side, index);
                for (int v = 1; v <= 4; v++) {
                    x.clue(side, index, v);
                    holdsOnlyIf(v == count, "clue(" + side + ", " + index + ", " + v + ")");
                }
                x.clue(side, index, 0);
            }
        }
    }

    /** "those that are higher than all cells between them and that end" */
    private int visible(int side, int index) {
        int count = 0;
        for (int i = 0; i < 4; i++) {
            boolean higherThanAll = true;
            for (int between = 0; between < i; between++) {
                higherThanAll &= fromEnd(side, index, i) > fromEnd(side, index, between);
            }
            count += higherThanAll ? 1 : 0;
        }
        return count;
    }

    /** Of the row or column at whose end the clue stands, the height i cells from that end. */
    private int fromEnd(int side, int index, int i) {
        return switch (side) {
            case SkyscraperGrid.LEFT -> grid[index][i];
            case SkyscraperGrid.RIGHT -> grid[index][3 - i];
            case SkyscraperGrid.TOP -> grid[i][index];
            default -> grid[3 - i][index];
        };
    }

    /** "a SIGN between two neighbouring cells says which of them is the lower one" */
    private void everySign() {
        for (int i = 0; i < 4; i++) {
            for (int k = 0; k < 3; k++) {
                bothRelations(i, k, false, grid[i][k] < grid[i][k + 1]);
                bothRelations(k, i, true, grid[k][i] < grid[k + 1][i]);
            }
        }
    }

    private void bothRelations(int row, int column, boolean down, boolean lower) {
        String call = "sign(" + row + ", " + column + ", " + down + ", ..)";
        x.sign(row, column, down, SkyscraperGrid.LESS);
        holdsOnlyIf(lower, call + " LESS");
        x.sign(row, column, down, SkyscraperGrid.MORE);
        holdsOnlyIf(!lower, call + " MORE");
        x.sign(row, column, down, SkyscraperGrid.NONE);
    }

    private void holdsOnlyIf(boolean truth, String hint) {
        Check.due("solutions() with " + hint, truth ? 1 : 0, x.solutions());
    }
}
