/** Terms: solutions, possible, height, votes and fixedCells change nothing that any call answers. */
public final class QuestionsChangeNothingTest {
    public static void main(String[] args) {
        SkyscraperGrid asked = new SkyscraperGrid();
        SkyscraperGrid quiet = new SkyscraperGrid();
        askEverything(asked);
        compareHints(asked, quiet, 0);
        askEverything(asked);
        compareHints(asked, quiet, 1);
        askEverything(asked);
        compareHints(asked, quiet, 2);
        Check.due("solutions()", quiet.solutions(), asked.solutions());
        Check.due("fixedCells()", quiet.fixedCells(), asked.fixedCells());
        askEverything(asked);
        for (int cell = 0; cell < 16; cell++) {
            int row = cell / 4;
            int column = cell % 4;
            Check.due("possible of cell " + cell, quiet.possible(row, column), asked.possible(row, column));
            Check.due("height of cell " + cell, quiet.height(1, row, column), asked.height(1, row, column));
            Check.due("votes of cell " + cell, quiet.votes(row, column, 2), asked.votes(row, column, 2));
        }
        Check.end();
    }

    private static void askEverything(SkyscraperGrid x) {
        x.solutions();
        x.possible(1, 2);
        x.possible(4, 2);
        x.height(0, 0, 0);
        x.height(-1, 5, 0);
        x.height(600, 3, 3);
        x.votes(3, 2, 4);
        x.votes(-1, 0, 9);
        x.votes(2, 2, 0);
        x.fixedCells();
    }

    private static void compareHints(SkyscraperGrid asked, SkyscraperGrid quiet, int turn) {
        Check.due("given", quiet.given(turn, 0, turn + 1), asked.given(turn, 0, turn + 1));
        askEverything(asked);
        Check.due("clue", quiet.clue(turn, 1, 2), asked.clue(turn, 1, 2));
        askEverything(asked);
        Check.due("sign", quiet.sign(turn, 2, true, turn), asked.sign(turn, 2, true, turn));
        Check.due("given again", quiet.given(turn, 0, turn + 1), asked.given(turn, 0, turn + 1));
        Check.due("clue again", quiet.clue(turn, 1, 2), asked.clue(turn, 1, 2));
        Check.due("sign again", quiet.sign(turn, 2, true, turn), asked.sign(turn, 2, true, turn));
    }
}
