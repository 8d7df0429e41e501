import java.util.ArrayList;
import java.util.List;

/** The states at whose edges the document speaks, each as the hints that lead to it. */
enum State {
    NO_HINTS(576, ""),

    /** Every kind of hint, and more than one solution. */
    SOME_HINTS(17, "given 2 2 3; clue 2 1 2; clue 1 3 2; right 0 0 1; down 1 3 2"),

    /** The last grid in order as the only solution. */
    ONE_SOLUTION(1, "clue 1 0 4; given 1 0 3; given 1 1 4; given 2 2 4; down 2 0 2"),

    /** Hints of every kind, of which a clue contradicts a given. */
    NO_SOLUTIONS(0, "given 1 0 1; clue 0 1 1; clue 3 2 2; right 3 0 1; down 0 3 2"),

    /** A hint at every place, all of them true of the first grid in order. */
    EVERY_HINT(1, everyHint());

    final int solutions;
    private final List<Hint> hints = new ArrayList<>();
    private final List<int[][]> found;

    State(int solutions, String text) {
        this.solutions = solutions;
        for (String one : text.split("; ")) {
            if (!one.isEmpty()) {
                String[] words = one.split(" ");
                hints.add(new Hint(words[0], number(words[1]), number(words[2]), number(words[3])));
            }
        }
        found = searched();
    }

    /** A new object in this state, after hintCalls() calls. */
    SkyscraperGrid make() {
        SkyscraperGrid x = new SkyscraperGrid();
        for (Hint hint : hints) {
            switch (hint.kind) {
                case "given" -> x.given(hint.a, hint.b, hint.value);
                case "clue" -> x.clue(hint.a, hint.b, hint.value);
                default -> x.sign(hint.a, hint.b, hint.kind.equals("down"), hint.value);
            }
        }
        return x;
    }

    int hintCalls() {
        return hints.size();
    }

    /** The height of a cell in solution number n as the model finds it; 0 if there is no such solution. */
    int heightIn(int n, int row, int column) {
        return n < 0 || n >= found.size() ? 0 : found.get(n)[row][column];
    }

    int votesFor(int row, int column, int height) {
        int count = 0;
        for (int[][] grid : found) {
            count += grid[row][column] == height ? 1 : 0;
        }
        return count;
    }

    int maskOf(int row, int column) {
        int mask = 0;
        for (int[][] grid : found) {
            mask |= 1 << (grid[row][column] - 1);
        }
        return mask;
    }

    int fixedCells() {
        int count = 0;
        for (int cell = 0; cell < 16; cell++) {
            count += Integer.bitCount(maskOf(cell / 4, cell % 4)) == 1 ? 1 : 0;
        }
        return count;
    }

    private List<int[][]> searched() {
        Model model = new Model();
        for (Hint hint : hints) {
            switch (hint.kind) {
                case "given" -> model.given(hint.a, hint.b, hint.value);
                case "clue" -> model.clue(hint.a, hint.b, hint.value);
                default -> model.sign(hint.a, hint.b, hint.kind.equals("down"), hint.value);
            }
        }
        return model.solutions();
    }

    /** The hint of that kind at that place; 0 if there is none. */
    int hintAt(String kind, int a, int b) {
        int value = 0;
        for (Hint hint : hints) {
            if (hint.kind.equals(kind) && hint.a == a && hint.b == b) {
                value = hint.value;
            }
        }
        return value;
    }

    /** Row r, column c of the first grid has height (r ^ c) + 1: 1 2 3 4 / 2 1 4 3 / 3 4 1 2 / 4 3 2 1. */
    private static String everyHint() {
        int[] fromStart = {4, 2, 2, 1};
        int[] fromEnd = {1, 2, 2, 4};
        List<String> all = new ArrayList<>();
        for (int i = 0; i < 4; i++) {
            all.add("clue 0 " + i + " " + fromStart[i]);
            all.add("clue 1 " + i + " " + fromEnd[i]);
            all.add("clue 2 " + i + " " + fromStart[i]);
            all.add("clue 3 " + i + " " + fromEnd[i]);
            for (int k = 0; k < 4; k++) {
                all.add("given " + i + " " + k + " " + ((i ^ k) + 1));
            }
            for (int k = 0; k < 3; k++) {
                int relation = (i ^ k) < (i ^ (k + 1)) ? 1 : 2;
                all.add("right " + i + " " + k + " " + relation);
                all.add("down " + k + " " + i + " " + relation);
            }
        }
        return String.join("; ", all);
    }

    private static int number(String word) {
        return Integer.parseInt(word);
    }

    /** Kinds are given, clue, right (a sign to the right) and down (a sign downwards). */
    private record Hint(String kind, int a, int b, int value) {
    }
}
