/** What several tests use: numbers out of range, and a puzzle with a single solution. */
final class Inputs {
    /** Not in 0 to 3, among them numbers that would wrap around into the range when multiplied by 4. */
    static final int[] NOT_0_TO_3 = {
        -1, 4, -4, 5, 16, 1 << 30, (1 << 30) + 1, -(1 << 30), Integer.MIN_VALUE, Integer.MAX_VALUE
    };

    /** Not in 0 to 4. */
    static final int[] NOT_0_TO_4 = {-1, 5, -4, 8, 1 << 30, Integer.MIN_VALUE, Integer.MAX_VALUE};

    private Inputs() {
    }

    /**
     * Givens in the first three rows and columns that leave one solution:
     * 1 2 3 4 / 2 1 4 3 / 3 4 1 2 / 4 3 2 1.
     */
    static SkyscraperGrid solved() {
        SkyscraperGrid x = new SkyscraperGrid();
        for (int row = 0; row < 3; row++) {
            for (int column = 0; column < 3; column++) {
                x.given(row, column, solvedHeight(row, column));
            }
        }
        return x;
    }

    /** The same with every height h as 5 - h: of the grids without a repeated height, the last in order. */
    static SkyscraperGrid solvedAsLast() {
        SkyscraperGrid x = new SkyscraperGrid();
        for (int row = 0; row < 3; row++) {
            for (int column = 0; column < 3; column++) {
                x.given(row, column, 5 - solvedHeight(row, column));
            }
        }
        return x;
    }

    static int solvedHeight(int row, int column) {
        return (row ^ column) + 1;
    }
}
