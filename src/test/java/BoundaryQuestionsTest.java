/** The sentences of promises 6 to 10 that name a boundary case, a test for each. */
public final class BoundaryQuestionsTest {
    public static void main(String[] args) {
        solutionsOfAllOneAndNone();
        possibleOfAllOneAndNone();
        possibleOutsideTheGrid();
        heightOfTheFirstAndTheLast();
        heightOfNoSolution();
        heightOutsideTheGrid();
        votesOfAllOneAndNone();
        votesOutsideTheGrid();
        votesForNoHeight();
        fixedCellsOfAllOneAndNone();
        Check.end();
    }

    /** Promise 6: "(576 without hints)" */
    private static void solutionsOfAllOneAndNone() {
        Check.due("solutions() of a new object", 576, new SkyscraperGrid().solutions());
        for (State state : State.values()) {
            SkyscraperGrid x = state.make();
            Check.due("solutions() of " + state, state.solutions, x.solutions());
            x.clear();
            Check.due("solutions() of " + state + " cleared", 576, x.solutions());
        }
    }

    /** Promise 7, at its edges: all four bits, one bit, and none. */
    private static void possibleOfAllOneAndNone() {
        SkyscraperGrid all = State.NO_HINTS.make();
        SkyscraperGrid first = State.EVERY_HINT.make();
        SkyscraperGrid last = State.ONE_SOLUTION.make();
        SkyscraperGrid none = State.NO_SOLUTIONS.make();
        for (int row = 0; row < 4; row++) {
            for (int column = 0; column < 4; column++) {
                String call = "possible(" + row + ", " + column + ")";
                Check.due(call + " of all", 15, all.possible(row, column));
                Check.due(call + " of the first", 1 << (row ^ column), first.possible(row, column));
                Check.due(call + " of the last", 8 >> (row ^ column), last.possible(row, column));
                Check.due(call + " of none", 0, none.possible(row, column));
            }
        }
    }

    /** Promise 7: "row or column not in 0 to 3: BAD_CELL." */
    private static void possibleOutsideTheGrid() {
        for (State state : State.values()) {
            SkyscraperGrid x = state.make();
            for (int[] cell : Inputs.pairsOutside(0, 3, 0, 3)) {
                String call = "possible(" + cell[0] + ", " + cell[1] + ")";
                Check.due(state + ", " + call, SkyscraperGrid.BAD_CELL, x.possible(cell[0], cell[1]));
            }
        }
    }

    /** Promise 8: "n from 0", to the last solution's number. */
    private static void heightOfTheFirstAndTheLast() {
        for (State state : State.values()) {
            SkyscraperGrid x = state.make();
            for (int cell = 0; cell < 16; cell++) {
                int row = cell / 4;
                int column = cell % 4;
                for (int n : new int[] {0, state.solutions - 1}) {
                    String call = "height(" + n + ", " + row + ", " + column + ")";
                    Check.due(state + ", " + call, state.heightIn(n, row, column), x.height(n, row, column));
                }
            }
        }
        SkyscraperGrid all = new SkyscraperGrid();
        SkyscraperGrid last = State.ONE_SOLUTION.make();
        for (int cell = 0; cell < 16; cell++) {
            int row = cell / 4;
            int column = cell % 4;
            String at = ", " + row + ", " + column + ")";
            Check.due("height(0" + at, (row ^ column) + 1, all.height(0, row, column));
            Check.due("height(575" + at, 4 - (row ^ column), all.height(575, row, column));
            Check.due("height(0" + at + " of the last alone", 4 - (row ^ column), last.height(0, row, column));
        }
    }

    /** Promise 8: "0 if there is no such solution": below 0, one past the last, and where there are none. */
    private static void heightOfNoSolution() {
        for (State state : State.values()) {
            for (int n : Inputs.outside(0, state.solutions - 1)) {
                SkyscraperGrid x = state.make();
                for (int cell = 0; cell < 16; cell++) {
                    String call = "height(" + n + ", " + cell / 4 + ", " + cell % 4 + ")";
                    Check.due(state + ", " + call, 0, x.height(n, cell / 4, cell % 4));
                }
            }
        }
        SkyscraperGrid some = State.SOME_HINTS.make();
        Check.due("a number that only the grids without hints have", 0, some.height(575, 1, 1));
        SkyscraperGrid none = State.NO_SOLUTIONS.make();
        Check.due("the first of no solutions", 0, none.height(0, 1, 1));
    }

    /** Promise 8: "or row or column is not in 0 to 3" */
    private static void heightOutsideTheGrid() {
        for (State state : State.values()) {
            for (int n : new int[] {-1, 0, state.solutions - 1, state.solutions}) {
                SkyscraperGrid x = state.make();
                for (int[] cell : Inputs.pairsOutside(0, 3, 0, 3)) {
                    String call = "height(" + n + ", " + cell[0] + ", " + cell[1] + ")";
                    Check.due(state + ", " + call, 0, x.height(n, cell[0], cell[1]));
                }
            }
        }
    }

    /** Promise 9, at its edges: the fourth part of all, one or none of one, and none of none. */
    private static void votesOfAllOneAndNone() {
        SkyscraperGrid all = State.NO_HINTS.make();
        SkyscraperGrid first = State.EVERY_HINT.make();
        SkyscraperGrid none = State.NO_SOLUTIONS.make();
        SkyscraperGrid given = new SkyscraperGrid();
        given.given(2, 1, 3);
        for (int h = 1; h <= 4; h++) {
            Check.due("votes(2, 1, " + h + ") of a given", h == 3 ? 144 : 0, given.votes(2, 1, h));
            for (int cell = 0; cell < 16; cell++) {
                int row = cell / 4;
                int column = cell % 4;
                String call = "votes(" + row + ", " + column + ", " + h + ")";
                Check.due(call + " of all", 144, all.votes(row, column, h));
                Check.due(call + " of one", (row ^ column) + 1 == h ? 1 : 0, first.votes(row, column, h));
                Check.due(call + " of none", 0, none.votes(row, column, h));
            }
        }
    }

    /** Promise 9: "row or column not in 0 to 3: BAD_CELL" */
    private static void votesOutsideTheGrid() {
        for (State state : State.values()) {
            SkyscraperGrid x = state.make();
            for (int[] cell : Inputs.pairsOutside(0, 3, 0, 3)) {
                for (int h = 1; h <= 4; h++) {
                    String call = "votes(" + cell[0] + ", " + cell[1] + ", " + h + ")";
                    Check.due(state + ", " + call, SkyscraperGrid.BAD_CELL, x.votes(cell[0], cell[1], h));
                }
            }
        }
    }

    /** Promise 9: "height not in 1 to 4: BAD_VALUE." Unlike in a given, 0 is not a height here. */
    private static void votesForNoHeight() {
        for (State state : State.values()) {
            SkyscraperGrid x = state.make();
            for (int cell = 0; cell < 16; cell++) {
                for (int h : Inputs.outside(1, 4)) {
                    String call = "votes(" + cell / 4 + ", " + cell % 4 + ", " + h + ")";
                    Check.due(state + ", " + call, SkyscraperGrid.BAD_VALUE, x.votes(cell / 4, cell % 4, h));
                }
            }
        }
    }

    /** Promise 10: "0 if there are no solutions." */
    private static void fixedCellsOfAllOneAndNone() {
        SkyscraperGrid x = State.EVERY_HINT.make();
        Check.due("fixedCells() of one solution", 16, x.fixedCells());
        x.given(3, 3, 2);
        Check.due("fixedCells() with a given for every cell, but no solutions", 0, x.fixedCells());
        Check.due("fixedCells() of no solutions", 0, State.NO_SOLUTIONS.make().fixedCells());
        Check.due("fixedCells() of the last solution alone", 16, State.ONE_SOLUTION.make().fixedCells());
        Check.due("fixedCells() of all solutions", 0, State.NO_HINTS.make().fixedCells());
        twoSolutions();
    }

    /** With two solutions at least four cells differ; here exactly four. */
    private static void twoSolutions() {
        SkyscraperGrid x = new SkyscraperGrid();
        for (int cell = 0; cell < 16; cell++) {
            int row = cell / 4;
            int column = cell % 4;
            if (row < 2 || column < 2) {
                x.given(row, column, Inputs.solvedHeight(row, column));
            }
        }
        Check.due("solutions() with four cells left", 2, x.solutions());
        Check.due("fixedCells() with four cells left", 12, x.fixedCells());
    }
}
