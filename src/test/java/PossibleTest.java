/** Promise 7: possible. */
public final class PossibleTest {
    public static void main(String[] args) {
        SkyscraperGrid free = new SkyscraperGrid();
        SkyscraperGrid solved = Inputs.solved();
        SkyscraperGrid last = Inputs.solvedAsLast();
        SkyscraperGrid none = new SkyscraperGrid();
        none.given(0, 0, 1);
        none.given(0, 1, 1);
        for (int row = 0; row < 4; row++) {
            for (int column = 0; column < 4; column++) {
                String call = "possible(" + row + ", " + column + ")";
                Check.due(call + " without hints", 15, free.possible(row, column));
                Check.due(call + " solved", 1 << (row ^ column), solved.possible(row, column));
                Check.due(call + " solved as the last", 8 >> (row ^ column), last.possible(row, column));
                Check.due(call + " without solutions", 0, none.possible(row, column));
            }
        }
        oneGiven();
        wrongInputs(free);
        wrongInputs(solved);
        wrongInputs(none);
        Check.end();
    }

    private static void oneGiven() {
        for (int h = 1; h <= 4; h++) {
            SkyscraperGrid x = new SkyscraperGrid();
            x.given(1, 2, h);
            int bit = 1 << (h - 1);
            for (int row = 0; row < 4; row++) {
                for (int column = 0; column < 4; column++) {
                    boolean inLine = row == 1 || column == 2;
                    int want = row == 1 && column == 2 ? bit : inLine ? 15 - bit : 15;
                    Check.due("possible(" + row + ", " + column + ")", want, x.possible(row, column));
                }
            }
        }
    }

    private static void wrongInputs(SkyscraperGrid x) {
        for (int bad : Inputs.NOT_0_TO_3) {
            for (int good = 0; good < 4; good++) {
                Check.due("possible(" + bad + ", " + good + ")", -1, x.possible(bad, good));
                Check.due("possible(" + good + ", " + bad + ")", -1, x.possible(good, bad));
            }
            Check.due("possible(" + bad + ", " + bad + ")", -1, x.possible(bad, bad));
        }
    }
}
