/** Promise 11: BAD_CELL or BAD_PLACE is tested before BAD_VALUE. */
public final class OrderOfErrorsTest {
    private static final int[] BAD_VALUES = {-1, 5, Integer.MIN_VALUE, Integer.MAX_VALUE};

    public static void main(String[] args) {
        for (int value : BAD_VALUES) {
            for (int bad : Inputs.NOT_0_TO_3) {
                badTwice(bad, value);
            }
            edges(value);
        }
        edges(3);
        SkyscraperGrid x = new SkyscraperGrid();
        Check.due("votes outside with height 0", -1, x.votes(4, 0, 0));
        Check.due("votes inside with height 0", -2, x.votes(3, 0, 0));
        Check.end();
    }

    private static void badTwice(int bad, int value) {
        SkyscraperGrid x = Inputs.solved();
        for (int good = 0; good < 4; good++) {
            everyCall(x, bad, good, value);
            everyCall(x, good, bad, value);
        }
        everyCall(x, bad, bad, value);
        Check.due("given with a bad value alone", -2, x.given(0, 0, value));
        Check.due("clue with a bad value alone", -2, x.clue(0, 0, value));
        Check.due("sign with a bad value alone", -2, x.sign(0, 0, false, value));
        Check.due("votes with a bad value alone", -2, x.votes(0, 0, value));
        Check.due("solutions() after wrong calls", 1, x.solutions());
    }

    /** A neighbour that is not there counts as a bad cell, and so comes before a bad relation. */
    private static void edges(int relation) {
        SkyscraperGrid x = new SkyscraperGrid();
        for (int i = 0; i < 4; i++) {
            Check.due("sign at the right edge", -1, x.sign(i, 3, false, relation));
            Check.due("sign at the lower edge", -1, x.sign(3, i, true, relation));
            Check.due("sign below the right edge", i < 3 ? -2 : -1, x.sign(i, 3, true, relation));
            Check.due("sign beside the lower edge", i < 3 ? -2 : -1, x.sign(3, i, false, relation));
        }
        Check.due("solutions() after wrong calls", 576, x.solutions());
    }

    private static void everyCall(SkyscraperGrid x, int a, int b, int value) {
        String arguments = "(" + a + ", " + b + ", " + value + ")";
        Check.due("given" + arguments, -1, x.given(a, b, value));
        Check.due("clue" + arguments, -3, x.clue(a, b, value));
        Check.due("sign to the right" + arguments, -1, x.sign(a, b, false, value));
        Check.due("sign downwards" + arguments, -1, x.sign(a, b, true, value));
        Check.due("votes" + arguments, -1, x.votes(a, b, value));
    }
}
