/** The sentences of 'Terms' that name a boundary case, a test for each. */
public final class BoundaryTermsTest {
    /**
     * For a line that begins with height 1, 2, 3 or 4: how many of its six orders show one, two, three and
     * four cells. A first cell that did not count would show one less.
     */
    private static final int[][] ORDERS = {{0, 2, 3, 1}, {0, 3, 3, 0}, {0, 6, 0, 0}, {6, 0, 0, 0}};

    public static void main(String[] args) {
        firstCellIsAlwaysVisible();
        contradictionsAreAllowed();
        contradictoryHintsAreKept();
        questionsChangeNothing();
        Check.end();
    }

    /** "the first cell is always visible" */
    private static void firstCellIsAlwaysVisible() {
        for (int place = 0; place < 16; place++) {
            int side = place / 4;
            int index = place % 4;
            int end = side == SkyscraperGrid.LEFT || side == SkyscraperGrid.TOP ? 0 : 3;
            boolean isRow = side == SkyscraperGrid.LEFT || side == SkyscraperGrid.RIGHT;
            SkyscraperGrid x = new SkyscraperGrid();
            for (int first = 1; first <= 4; first++) {
                x.given(isRow ? index : end, isRow ? end : index, first);
                for (int visible = 1; visible <= 4; visible++) {
                    x.clue(side, index, visible);
                    String call = "solutions() with " + first + " at the end and clue(" + side + ", " + index + ", " + visible + ")";
                    Check.due(call, 24 * ORDERS[first - 1][visible - 1], x.solutions());
                }
            }
        }
    }

    /** "Hints that contradict each other are allowed; there are no solutions then." */
    private static void contradictionsAreAllowed() {
        SkyscraperGrid x = new SkyscraperGrid();
        Check.due("a given", 0, x.given(2, 1, 4));
        Check.due("the same height in its row", 0, x.given(2, 3, 4));
        noSolutions("two givens in a row", x);
        Check.due("it is taken away", 4, x.given(2, 3, 0));
        Check.due("solutions() of the first given alone", 144, x.solutions());
        Check.due("the same height in its column", 0, x.given(0, 1, 4));
        noSolutions("two givens in a column", x);
        Check.due("it is taken away", 4, x.given(0, 1, 0));
        Check.due("a clue against the given", 0, x.clue(SkyscraperGrid.LEFT, 2, 4));
        noSolutions("a given and a clue", x);
        Check.due("it is taken away", 4, x.clue(SkyscraperGrid.LEFT, 2, 0));
        Check.due("a sign against the given", 0, x.sign(2, 1, false, SkyscraperGrid.LESS));
        noSolutions("a given and a sign", x);
        Check.due("it is taken away", 1, x.sign(2, 1, false, SkyscraperGrid.NONE));
        Check.due("the given is taken away", 4, x.given(2, 1, 0));
        Check.due("a clue", 0, x.clue(SkyscraperGrid.TOP, 0, 4));
        Check.due("a clue against it", 0, x.clue(SkyscraperGrid.BOTTOM, 0, 2));
        noSolutions("two clues", x);
        Check.due("it is taken away", 2, x.clue(SkyscraperGrid.BOTTOM, 0, 0));
        Check.due("a sign against the clue", 0, x.sign(1, 0, true, SkyscraperGrid.MORE));
        noSolutions("a clue and a sign", x);
        Check.due("it is taken away", 2, x.sign(1, 0, true, SkyscraperGrid.NONE));
        Check.due("solutions() of the clue alone", 24, x.solutions());
        x.clear();
        Check.due("a sign", 0, x.sign(2, 2, false, SkyscraperGrid.LESS));
        Check.due("a second sign", 0, x.sign(2, 3, true, SkyscraperGrid.LESS));
        Check.due("a third sign", 0, x.sign(3, 2, false, SkyscraperGrid.MORE));
        Check.due("a fourth sign, back to the first cell", 0, x.sign(2, 2, true, SkyscraperGrid.MORE));
        noSolutions("a ring of signs", x);
    }

    private static void noSolutions(String what, SkyscraperGrid x) {
        Check.due("solutions() with " + what, 0, x.solutions());
        Check.due("fixedCells() with " + what, 0, x.fixedCells());
        for (int i = 0; i < 4; i++) {
            Check.due("possible() with " + what, 0, x.possible(i, 3 - i));
            Check.due("height() with " + what, 0, x.height(0, i, i));
            Check.due("votes() with " + what, 0, x.votes(2, 1, i + 1));
        }
    }

    /** Allowed also when there are no solutions already: every height, clue and relation is kept. */
    private static void contradictoryHintsAreKept() {
        SkyscraperGrid x = State.NO_SOLUTIONS.make();
        Check.due("given(1, 0, 4)", 1, x.given(1, 0, 4));
        Check.due("given(1, 1, 4)", 0, x.given(1, 1, 4));
        Check.due("clue(0, 1, 4)", 1, x.clue(0, 1, 4));
        Check.due("sign(3, 0, false, 2)", 1, x.sign(3, 0, false, 2));
        Check.due("sign(0, 3, true, 1)", 2, x.sign(0, 3, true, 1));
        Check.due("solutions()", 0, x.solutions());
        Check.due("given(1, 0, 0)", 4, x.given(1, 0, 0));
        Check.due("given(1, 1, 0)", 4, x.given(1, 1, 0));
        Check.due("clue(0, 1, 0)", 4, x.clue(0, 1, 0));
        Check.due("clue(3, 2, 0)", 2, x.clue(3, 2, 0));
        Check.due("sign(3, 0, false, 0)", 2, x.sign(3, 0, false, 0));
        Check.due("sign(0, 3, true, 0)", 1, x.sign(0, 3, true, 0));
        Check.due("solutions() after all were taken away", 576, x.solutions());
    }

    /** "The calls below change nothing that any call answers." */
    private static void questionsChangeNothing() {
        int[] numbers = {Integer.MIN_VALUE, -1, 0, 1, 3, 4, 5, 575, 576, Integer.MAX_VALUE};
        for (State state : State.values()) {
            SkyscraperGrid x = state.make();
            x.solutions();
            Answers.due("solutions() asked", state, x);
            x = state.make();
            x.fixedCells();
            Answers.due("fixedCells() asked", state, x);
            for (int a : numbers) {
                for (int b : numbers) {
                    x = state.make();
                    x.possible(a, b);
                    Answers.due("possible(" + a + ", " + b + ") asked", state, x);
                    x = state.make();
                    x.height(a, b, 2);
                    x.height(a, 1, b);
                    Answers.due("height() asked of " + a + " and " + b, state, x);
                    x = state.make();
                    x.votes(a, 3, b);
                    x.votes(0, a, b);
                    Answers.due("votes() asked of " + a + " and " + b, state, x);
                }
            }
        }
    }
}
