import java.util.ArrayList;
import java.util.List;

/** What several tests use: numbers out of range, and a puzzle with a single solution. */
final class Inputs {
    /** Not in 0 to 3, among them numbers that would wrap around into the range when multiplied by 4. */
    static final int[] NOT_0_TO_3 = {
        -1, 4, -4, 5, 16, 1 << 30, (1 << 30) + 1, -(1 << 30), Integer.MIN_VALUE, Integer.MAX_VALUE
    };

    /** Not in 0 to 4. */
    static final int[] NOT_0_TO_4 = {-1, 5, -4, 8, 1 << 30, Integer.MIN_VALUE, Integer.MAX_VALUE};

    private Inputs() {
    }

    /** The numbers just outside a range, and the smallest and the greatest int. */
    static int[] outside(int first, int last) {
        return new int[] {first - 1, last + 1, Integer.MIN_VALUE, Integer.MAX_VALUE};
    }

    /**
     * Pairs of which at least one is outside: beside every number of the other's range, and beside one
     * another, where row * 4 + column may again lie inside the grid.
     */
    static List<int[]> pairsOutside(int firstOfA, int lastOfA, int firstOfB, int lastOfB) {
        List<int[]> pairs = new ArrayList<>();
        for (int a : outside(firstOfA, lastOfA)) {
            for (int b = firstOfB; b <= lastOfB; b++) {
                pairs.add(new int[] {a, b});
            }
            for (int b : outside(firstOfB, lastOfB)) {
                pairs.add(new int[] {a, b});
            }
        }
        for (int b : outside(firstOfB, lastOfB)) {
            for (int a = firstOfA; a <= lastOfA; a++) {
                pairs.add(new int[] {a, b});
            }
        }
        return pairs;
    }

    /**
     * Givens in the first three rows and columns that leave one solution:
     * 1 2 3 4 / 2 1 4 3 / 3 4 1 2 / 4 3 2 1.
     */
    static SkyscraperGrid solved() {
        SkyscraperGrid x = new SkyscraperGrid();
        for (int row = 0; row < 3; row++) {
            for (int column = 0; column < 3; column++) {
                x.given(row, column, solvedHeight(row, column));
            }
        }
        return x;
    }

    /** The same with every height h as 5 - h: of the grids without a repeated height, the last in order. */
    static SkyscraperGrid solvedAsLast() {
        SkyscraperGrid x = new SkyscraperGrid();
        for (int row = 0; row < 3; row++) {
            for (int column = 0; column < 3; column++) {
                x.given(row, column, 5 - solvedHeight(row, column));
            }
        }
        return x;
    }

    static int solvedHeight(int row, int column) {
        return (row ^ column) + 1;
    }
}
