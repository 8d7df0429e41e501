/** Promise 3: clue. */
public final class ClueTest {
    /** Of the 24 orders of four heights, 6, 11, 6 and 1 show one, two, three and four of them. */
    private static final int[] SOLUTIONS_FOR = {576, 144, 264, 144, 24};

    public static void main(String[] args) {
        everyPlaceAndNumber();
        eachPlaceHasItsOwn();
        sidesAreWhereTheyAre();
        visibleOfMixedLines();
        contradiction();
        wrongInputs();
        Check.end();
    }

    private static void everyPlaceAndNumber() {
        SkyscraperGrid x = new SkyscraperGrid();
        for (int side = 0; side < 4; side++) {
            for (int index = 0; index < 4; index++) {
                int old = 0;
                for (int visible = 4; visible >= 0; visible--) {
                    String call = "clue(" + side + ", " + index + ", " + visible + ")";
                    Check.due(call, old, x.clue(side, index, visible));
                    Check.due("solutions() after " + call, SOLUTIONS_FOR[visible], x.solutions());
                    old = visible;
                }
            }
        }
    }

    private static void eachPlaceHasItsOwn() {
        SkyscraperGrid x = new SkyscraperGrid();
        for (int place = 0; place < 16; place++) {
            x.clue(place / 4, place % 4, place * 7 % 4 + 1);
        }
        for (int place = 0; place < 16; place++) {
            Check.due("old clue of place " + place, place * 7 % 4 + 1, x.clue(place / 4, place % 4, 0));
        }
    }

    /** A clue of 4 tells the whole line, rising from its end. */
    private static void sidesAreWhereTheyAre() {
        for (int side = 0; side < 4; side++) {
            for (int index = 0; index < 4; index++) {
                SkyscraperGrid x = new SkyscraperGrid();
                x.clue(side, index, 4);
                for (int i = 0; i < 4; i++) {
                    int along = side == SkyscraperGrid.LEFT || side == SkyscraperGrid.TOP ? i : 3 - i;
                    boolean isRow = side == SkyscraperGrid.LEFT || side == SkyscraperGrid.RIGHT;
                    int mask = isRow ? x.possible(index, along) : x.possible(along, index);
                    Check.due("cell " + i + " from side " + side + " of line " + index, 1 << i, mask);
                }
                Check.due("fixedCells() with side " + side + " of line " + index, 4, x.fixedCells());
            }
        }
    }

    /** The line 2 1 4 3 shows two cells from either end: 2 and 4, or 3 and 4. */
    private static void visibleOfMixedLines() {
        int[] line = {2, 1, 4, 3};
        for (int visible = 1; visible <= 4; visible++) {
            for (int side = 0; side < 4; side++) {
                SkyscraperGrid x = new SkyscraperGrid();
                for (int i = 0; i < 4; i++) {
                    boolean isRow = side < 2;
                    x.given(isRow ? 1 : i, isRow ? i : 1, line[i]);
                }
                x.clue(side, 1, visible);
                Check.due("solutions() with " + visible + " at side " + side, visible == 2 ? 24 : 0, x.solutions());
            }
        }
    }

    private static void contradiction() {
        SkyscraperGrid x = new SkyscraperGrid();
        Check.due("clue(LEFT, 2, 1)", 0, x.clue(SkyscraperGrid.LEFT, 2, 1));
        Check.due("clue(RIGHT, 2, 1)", 0, x.clue(SkyscraperGrid.RIGHT, 2, 1));
        Check.due("solutions()", 0, x.solutions());
        Check.due("clue(RIGHT, 2, 0)", 1, x.clue(SkyscraperGrid.RIGHT, 2, 0));
        Check.due("solutions()", 144, x.solutions());
    }

    private static void wrongInputs() {
        SkyscraperGrid x = new SkyscraperGrid();
        for (int place = 0; place < 16; place++) {
            x.clue(place / 4, place % 4, place % 3 + 1);
        }
        for (int bad : Inputs.NOT_0_TO_3) {
            for (int good = 0; good < 4; good++) {
                Check.due("clue(" + bad + ", " + good + ", 4)", -3, x.clue(bad, good, 4));
                Check.due("clue(" + good + ", " + bad + ", 4)", -3, x.clue(good, bad, 4));
            }
            Check.due("clue(" + bad + ", " + bad + ", 0)", -3, x.clue(bad, bad, 0));
        }
        for (int bad : Inputs.NOT_0_TO_4) {
            Check.due("clue(0, 0, " + bad + ")", -2, x.clue(0, 0, bad));
            Check.due("clue(3, 3, " + bad + ")", -2, x.clue(3, 3, bad));
        }
        for (int place = 0; place < 16; place++) {
            Check.due("clue at place " + place + " after wrong calls", place % 3 + 1, x.clue(place / 4, place % 4, 0));
        }
        Check.due("solutions() after all were taken away", 576, x.solutions());
    }
}
