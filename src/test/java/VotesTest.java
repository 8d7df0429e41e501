/** Promise 9: votes. */
public final class VotesTest {
    private static final int[] NOT_1_TO_4 = {0, 5, -1, -4, 8, Integer.MIN_VALUE, Integer.MAX_VALUE};

    public static void main(String[] args) {
        SkyscraperGrid free = new SkyscraperGrid();
        SkyscraperGrid solved = Inputs.solved();
        SkyscraperGrid last = Inputs.solvedAsLast();
        SkyscraperGrid none = new SkyscraperGrid();
        none.clue(SkyscraperGrid.TOP, 1, 1);
        none.clue(SkyscraperGrid.TOP, 2, 1);
        for (int cell = 0; cell < 16; cell++) {
            int row = cell / 4;
            int column = cell % 4;
            for (int h = 1; h <= 4; h++) {
                String call = "votes(" + row + ", " + column + ", " + h + ")";
                int one = Inputs.solvedHeight(row, column) == h ? 1 : 0;
                Check.due(call + " without hints", 144, free.votes(row, column, h));
                Check.due(call + " solved", one, solved.votes(row, column, h));
                int oneInLast = 5 - Inputs.solvedHeight(row, column) == h ? 1 : 0;
                Check.due(call + " solved as the last", oneInLast, last.votes(row, column, h));
                Check.due(call + " without solutions", 0, none.votes(row, column, h));
            }
        }
        unevenVotes();
        wrongInputs(free);
        wrongInputs(none);
        Check.end();
    }

    /** Of the 24 orders of a row, 12 rise at the first step: 6, 4, 2 and 0 of them begin with 1, 2, 3 and 4. */
    private static void unevenVotes() {
        SkyscraperGrid x = new SkyscraperGrid();
        x.sign(0, 0, false, SkyscraperGrid.LESS);
        for (int h = 1; h <= 4; h++) {
            Check.due("votes(0, 0, " + h + ")", 48 * (4 - h), x.votes(0, 0, h));
            Check.due("votes(0, 1, " + h + ")", 48 * (h - 1), x.votes(0, 1, h));
            Check.due("votes(0, 2, " + h + ")", 72, x.votes(0, 2, h));
        }
    }

    private static void wrongInputs(SkyscraperGrid x) {
        for (int bad : Inputs.NOT_0_TO_3) {
            for (int good = 0; good < 4; good++) {
                Check.due("votes(" + bad + ", " + good + ", 1)", -1, x.votes(bad, good, 1));
                Check.due("votes(" + good + ", " + bad + ", 4)", -1, x.votes(good, bad, 4));
            }
        }
        for (int bad : NOT_1_TO_4) {
            Check.due("votes(0, 0, " + bad + ")", -2, x.votes(0, 0, bad));
            Check.due("votes(3, 3, " + bad + ")", -2, x.votes(3, 3, bad));
        }
    }
}
