/** Promise 6: solutions. */
public final class SolutionsTest {
    public static void main(String[] args) {
        SkyscraperGrid x = new SkyscraperGrid();
        Check.due("solutions() without hints", 576, x.solutions());
        Check.due("solutions() asked again", 576, x.solutions());
        x.given(0, 0, 1);
        Check.due("solutions() with one given", 144, x.solutions());
        x.given(0, 1, 2);
        Check.due("solutions() with two givens in a row", 48, x.solutions());
        x.given(0, 2, 3);
        Check.due("solutions() with a row but one cell", 24, x.solutions());
        x.given(0, 3, 4);
        Check.due("solutions() with a whole row", 24, x.solutions());
        x.given(0, 3, 3);
        Check.due("solutions() with a height twice in a row", 0, x.solutions());
        x.given(0, 3, 0);
        Check.due("solutions() after taking it away", 24, x.solutions());
        Check.due("solutions() of a solved grid", 1, Inputs.solved().solutions());
        Check.due("solutions() of the last grid", 1, Inputs.solvedAsLast().solutions());
        kindsOfHintsTogether();
        Check.end();
    }

    /** Each kind by itself leaves solutions; a given against a clue, or a sign, leaves none. */
    private static void kindsOfHintsTogether() {
        SkyscraperGrid x = new SkyscraperGrid();
        x.given(2, 0, 3);
        x.clue(SkyscraperGrid.LEFT, 2, 1);
        Check.due("solutions() of a given against a clue", 0, x.solutions());
        x.given(2, 0, 4);
        Check.due("solutions() of a given that fits the clue", 144, x.solutions());
        x.sign(1, 0, true, SkyscraperGrid.MORE);
        Check.due("solutions() of a sign against a given", 0, x.solutions());
        x.sign(1, 0, true, SkyscraperGrid.LESS);
        Check.due("solutions() of a sign that fits", 144, x.solutions());
    }
}
