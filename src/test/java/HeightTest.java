/** Promise 8: height, and the order of solutions. */
public final class HeightTest {
    private static final int[] FIRST = {1, 2, 3, 4, 2, 1, 4, 3, 3, 4, 1, 2, 4, 3, 2, 1};
    private static final int[] SECOND = {1, 2, 3, 4, 2, 1, 4, 3, 3, 4, 2, 1, 4, 3, 1, 2};
    private static final int[] LAST = {4, 3, 2, 1, 3, 4, 1, 2, 2, 1, 4, 3, 1, 2, 3, 4};

    public static void main(String[] args) {
        firstAndLast();
        allAreInOrder();
        orderWithHints();
        noSuchSolution();
        noSuchCell();
        Check.end();
    }

    private static void firstAndLast() {
        SkyscraperGrid x = new SkyscraperGrid();
        for (int cell = 0; cell < 16; cell++) {
            Check.due("height(0, ..) of cell " + cell, FIRST[cell], x.height(0, cell / 4, cell % 4));
            Check.due("height(1, ..) of cell " + cell, SECOND[cell], x.height(1, cell / 4, cell % 4));
            Check.due("height(575, ..) of cell " + cell, LAST[cell], x.height(575, cell / 4, cell % 4));
        }
    }

    /** Every solution is a grid without a repeated height, and comes behind the one before it. */
    private static void allAreInOrder() {
        long before = 0;
        for (int n = 0; n < 576; n++) {
            SkyscraperGrid x = new SkyscraperGrid();
            long digits = 0;
            int[] rowMasks = new int[4];
            int[] columnMasks = new int[4];
            for (int cell = 0; cell < 16; cell++) {
                int h = x.height(n, cell / 4, cell % 4);
                digits = digits * 10 + h;
                rowMasks[cell / 4] |= 1 << h;
                columnMasks[cell % 4] |= 1 << h;
            }
            for (int i = 0; i < 4; i++) {
                Check.due("heights in row " + i + " of solution " + n, 30, rowMasks[i]);
                Check.due("heights in column " + i + " of solution " + n, 30, columnMasks[i]);
            }
            Check.holds("solution " + n + " comes behind the one before", digits > before);
            before = digits;
        }
    }

    /** Solution numbers count the solutions alone, from 0, whatever comes before them without hints. */
    private static void orderWithHints() {
        SkyscraperGrid x = new SkyscraperGrid();
        x.given(0, 0, 4);
        x.given(0, 1, 3);
        x.given(0, 2, 2);
        x.given(1, 0, 3);
        x.given(1, 1, 4);
        x.given(2, 0, 2);
        x.given(2, 1, 1);
        Check.due("solutions()", 2, x.solutions());
        for (int cell = 0; cell < 16; cell++) {
            int row = cell / 4;
            int column = cell % 4;
            int other = row >= 2 && column >= 2 ? 7 - LAST[cell] : LAST[cell];
            Check.due("height(0, ..) of cell " + cell, other, x.height(0, row, column));
            Check.due("height(1, ..) of cell " + cell, LAST[cell], x.height(1, row, column));
            Check.due("height(2, ..) of cell " + cell, 0, x.height(2, row, column));
        }
    }

    private static void noSuchSolution() {
        int[] numbers = {-1, 576, 577, -576, Integer.MIN_VALUE, Integer.MAX_VALUE};
        SkyscraperGrid x = new SkyscraperGrid();
        for (int n : numbers) {
            Check.due("height(" + n + ", 0, 0)", 0, x.height(n, 0, 0));
            Check.due("height(" + n + ", 3, 3)", 0, x.height(n, 3, 3));
        }
        SkyscraperGrid solved = Inputs.solved();
        Check.due("height(0, 3, 3) solved", 1, solved.height(0, 3, 3));
        Check.due("height(1, 3, 3) solved", 0, solved.height(1, 3, 3));
        Check.due("height(-1, 3, 3) solved", 0, solved.height(-1, 3, 3));
        solved.given(3, 3, 4);
        Check.due("height(0, 3, 3) without solutions", 0, solved.height(0, 3, 3));
        Check.due("height(-1, 3, 3) without solutions", 0, solved.height(-1, 3, 3));
    }

    private static void noSuchCell() {
        SkyscraperGrid x = new SkyscraperGrid();
        for (int bad : Inputs.NOT_0_TO_3) {
            for (int good = 0; good < 4; good++) {
                Check.due("height(0, " + bad + ", " + good + ")", 0, x.height(0, bad, good));
                Check.due("height(5, " + good + ", " + bad + ")", 0, x.height(5, good, bad));
            }
            Check.due("height(-1, " + bad + ", " + bad + ")", 0, x.height(-1, bad, bad));
        }
    }
}
