/** Asks an object for everything, and compares it with what is due in a state. */
final class Answers {
    /** So many calls one comparison makes: two, 16 possible, 64 votes, 64 height, and 56 that read the hints. */
    static final int CALLS = 202;

    private Answers() {
    }

    /** The hints are read by taking them away, so the object is of no use afterwards. */
    static void due(String when, State state, SkyscraperGrid x) {
        String where = state + ", " + when + ": ";
        Check.due(where + "solutions()", state.solutions, x.solutions());
        Check.due(where + "fixedCells()", state.fixedCells(), x.fixedCells());
        for (int row = 0; row < 4; row++) {
            for (int column = 0; column < 4; column++) {
                cellDue(where, state, x, row, column);
            }
        }
        hintsDue(where, state, x);
    }

    private static void cellDue(String where, State state, SkyscraperGrid x, int row, int column) {
        String cell = row + ", " + column;
        Check.due(where + "possible(" + cell + ")", state.maskOf(row, column), x.possible(row, column));
        for (int h = 1; h <= 4; h++) {
            int want = state.votesFor(row, column, h);
            Check.due(where + "votes(" + cell + ", " + h + ")", want, x.votes(row, column, h));
        }
        int[] numbers = {-1, 0, state.solutions - 1, state.solutions};
        for (int n : numbers) {
            int want = state.heightIn(n, row, column);
            Check.due(where + "height(" + n + ", " + cell + ")", want, x.height(n, row, column));
        }
    }

    private static void hintsDue(String where, State state, SkyscraperGrid x) {
        for (int a = 0; a < 4; a++) {
            for (int b = 0; b < 4; b++) {
                String place = " at " + a + ", " + b;
                Check.due(where + "given" + place, state.hintAt("given", a, b), x.given(a, b, 0));
                Check.due(where + "clue" + place, state.hintAt("clue", a, b), x.clue(a, b, 0));
                if (b < 3) {
                    Check.due(where + "sign to the right" + place, state.hintAt("right", a, b), x.sign(a, b, false, 0));
                }
                if (a < 3) {
                    Check.due(where + "sign downwards" + place, state.hintAt("down", a, b), x.sign(a, b, true, 0));
                }
            }
        }
    }
}
