/** The example of README.md, call by call, and what its table says of refused calls. */
public final class ReadmeTest {
    public static void main(String[] args) {
        example();
        refusedCalls();
        Check.end();
    }

    private static void example() {
        SkyscraperGrid grid = new SkyscraperGrid();
        Check.due("solutions() without hints", 576, grid.solutions());
        Check.due("clue(LEFT, 0, 4)", 0, grid.clue(SkyscraperGrid.LEFT, 0, 4));
        Check.due("given(1, 0, 2)", 0, grid.given(1, 0, 2));
        Check.due("sign(2, 3, true, MORE)", 0, grid.sign(2, 3, true, SkyscraperGrid.MORE));
        Check.due("solutions()", 4, grid.solutions());
        Check.due("possible(1, 1)", 13, grid.possible(1, 1));
        Check.due("votes(1, 1, 4)", 1, grid.votes(1, 1, 4));
        Check.due("height(0, 1, 1)", 1, grid.height(0, 1, 1));
        Check.due("height(4, 1, 1)", 0, grid.height(4, 1, 1));
        Check.due("fixedCells()", 5, grid.fixedCells());
        Check.due("given(1, 0, 0)", 2, grid.given(1, 0, 0));
        Check.due("given(1, 4, 2)", SkyscraperGrid.BAD_CELL, grid.given(1, 4, 2));
        grid.clear();
        Check.due("solutions() after clear()", 576, grid.solutions());
    }

    private static void refusedCalls() {
        SkyscraperGrid grid = new SkyscraperGrid();
        Check.due("given outside the grid", SkyscraperGrid.BAD_CELL, grid.given(4, 0, 5));
        Check.due("given of no height", SkyscraperGrid.BAD_VALUE, grid.given(3, 0, 5));
        Check.due("clue at no place", SkyscraperGrid.BAD_PLACE, grid.clue(4, 0, 5));
        Check.due("clue of no number", SkyscraperGrid.BAD_VALUE, grid.clue(3, 0, 5));
        Check.due("sign without a right neighbour", SkyscraperGrid.BAD_CELL, grid.sign(0, 3, false, 3));
        Check.due("sign without a cell below", SkyscraperGrid.BAD_CELL, grid.sign(3, 0, true, 3));
        Check.due("sign of no relation", SkyscraperGrid.BAD_VALUE, grid.sign(0, 3, true, 3));
        Check.due("possible outside the grid", SkyscraperGrid.BAD_CELL, grid.possible(0, 4));
        Check.due("height outside the grid", 0, grid.height(0, 0, 4));
        Check.due("votes outside the grid", SkyscraperGrid.BAD_CELL, grid.votes(0, 4, 0));
        Check.due("votes for no height", SkyscraperGrid.BAD_VALUE, grid.votes(0, 3, 0));
    }
}
