/** Promise 4: sign. */
public final class SignTest {
    private static final int[] NOT_0_TO_2 = {-1, 3, 4, -2, 1 << 30, Integer.MIN_VALUE, Integer.MAX_VALUE};

    public static void main(String[] args) {
        everyPlace(false);
        everyPlace(true);
        eachPlaceHasItsOwn();
        contradiction();
        noNeighbour();
        wrongInputs();
        Check.end();
    }

    private static void everyPlace(boolean down) {
        for (int row = 0; row < (down ? 3 : 4); row++) {
            for (int column = 0; column < (down ? 4 : 3); column++) {
                SkyscraperGrid x = new SkyscraperGrid();
                int belowRow = down ? row + 1 : row;
                int besideColumn = down ? column : column + 1;
                String call = "sign(" + row + ", " + column + ", " + down + ", ..)";
                Check.due(call + " LESS", 0, x.sign(row, column, down, SkyscraperGrid.LESS));
                Check.due("solutions() after LESS", 288, x.solutions());
                Check.due("possible() of the lower cell", 7, x.possible(row, column));
                Check.due("possible() of the higher cell", 14, x.possible(belowRow, besideColumn));
                Check.due(call + " MORE", 1, x.sign(row, column, down, SkyscraperGrid.MORE));
                Check.due("solutions() after MORE", 288, x.solutions());
                Check.due("possible() of the higher cell", 14, x.possible(row, column));
                Check.due("possible() of the lower cell", 7, x.possible(belowRow, besideColumn));
                Check.due(call + " MORE again", 2, x.sign(row, column, down, SkyscraperGrid.MORE));
                Check.due(call + " NONE", 2, x.sign(row, column, down, SkyscraperGrid.NONE));
                Check.due(call + " NONE again", 0, x.sign(row, column, down, SkyscraperGrid.NONE));
                Check.due("solutions() after NONE", 576, x.solutions());
            }
        }
    }

    private static void eachPlaceHasItsOwn() {
        SkyscraperGrid x = new SkyscraperGrid();
        for (int i = 0; i < 12; i++) {
            x.sign(i / 3, i % 3, false, i % 2 + 1);
            x.sign(i / 4, i % 4, true, i / 3 % 2 + 1);
        }
        for (int i = 0; i < 12; i++) {
            Check.due("old sign to the right, number " + i, i % 2 + 1, x.sign(i / 3, i % 3, false, 0));
            Check.due("old sign downwards, number " + i, i / 3 % 2 + 1, x.sign(i / 4, i % 4, true, 0));
        }
        Check.due("solutions() after all were taken away", 576, x.solutions());
    }

    /** Three rising signs tell a whole row; a ring of rising signs is met by no heights. */
    private static void contradiction() {
        SkyscraperGrid x = new SkyscraperGrid();
        x.sign(0, 0, false, 1);
        x.sign(0, 1, false, 1);
        x.sign(0, 2, false, 1);
        Check.due("solutions() with a rising row", 24, x.solutions());
        Check.due("fixedCells() with a rising row", 4, x.fixedCells());
        x.clear();
        x.sign(0, 0, false, 1);
        x.sign(0, 1, true, 1);
        x.sign(1, 0, false, 2);
        x.sign(0, 0, true, 2);
        Check.due("solutions() with a ring", 0, x.solutions());
        Check.due("the last sign of the ring", 2, x.sign(0, 0, true, 1));
        Check.holds("there are solutions without the ring", x.solutions() > 0);
    }

    private static void noNeighbour() {
        SkyscraperGrid x = new SkyscraperGrid();
        for (int i = 0; i < 4; i++) {
            for (int relation = 0; relation < 3; relation++) {
                Check.due("sign(" + i + ", 3, false, " + relation + ")", -1, x.sign(i, 3, false, relation));
                Check.due("sign(3, " + i + ", true, " + relation + ")", -1, x.sign(3, i, true, relation));
            }
        }
        Check.due("solutions() after wrong calls", 576, x.solutions());
        Check.due("sign(3, 2, false, 1)", 0, x.sign(3, 2, false, 1));
        Check.due("sign(2, 3, true, 1)", 0, x.sign(2, 3, true, 1));
    }

    private static void wrongInputs() {
        SkyscraperGrid x = new SkyscraperGrid();
        for (int i = 0; i < 12; i++) {
            x.sign(i / 3, i % 3, false, i % 3);
            x.sign(i / 4, i % 4, true, i % 3);
        }
        for (int bad : Inputs.NOT_0_TO_3) {
            for (int good = 0; good < 4; good++) {
                Check.due("sign(" + bad + ", " + good + ", false, 2)", -1, x.sign(bad, good, false, 2));
                Check.due("sign(" + bad + ", " + good + ", true, 2)", -1, x.sign(bad, good, true, 2));
                Check.due("sign(" + good + ", " + bad + ", false, 1)", -1, x.sign(good, bad, false, 1));
                Check.due("sign(" + good + ", " + bad + ", true, 1)", -1, x.sign(good, bad, true, 1));
            }
        }
        for (int bad : NOT_0_TO_2) {
            Check.due("sign(0, 0, false, " + bad + ")", -2, x.sign(0, 0, false, bad));
            Check.due("sign(0, 1, true, " + bad + ")", -2, x.sign(0, 1, true, bad));
            Check.due("sign(3, 2, false, " + bad + ")", -2, x.sign(3, 2, false, bad));
            Check.due("sign(2, 3, true, " + bad + ")", -2, x.sign(2, 3, true, bad));
        }
        for (int i = 0; i < 12; i++) {
            Check.due("sign to the right, number " + i, i % 3, x.sign(i / 3, i % 3, false, 0));
            Check.due("sign downwards, number " + i, i % 3, x.sign(i / 4, i % 4, true, 0));
        }
    }
}
