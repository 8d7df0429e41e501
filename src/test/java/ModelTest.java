import java.util.List;

/**
 * All promises together: runs of 512 calls, each call compared with the model. The runs are mixed by a
 * fixed sequence of numbers, so that they are the same every time.
 */
public final class ModelTest {
    private static final int RUNS = 300;
    private static final int CALLS = 512;

    private long state;
    private final SkyscraperGrid x = new SkyscraperGrid();
    private final Model model = new Model();
    private List<int[][]> solutions = model.solutions();

    private ModelTest(int run) {
        state = run * 7919L + 17;
    }

    public static void main(String[] args) {
        for (int run = 0; run < RUNS; run++) {
            ModelTest test = new ModelTest(run);
            for (int i = 0; i < CALLS; i++) {
                test.call("run " + run + ", call " + i + ": ");
            }
        }
        Check.end();
    }

    private int pick(int bound) {
        state = state * 6364136223846793005L + 1442695040888963407L;
        return (int) ((state >>> 33) % bound);
    }

    /** Mostly from 0 to the bound - 1, now and then one beside it. */
    private int near(int bound) {
        int odd = pick(24);
        return odd == 0 ? -1 : odd == 1 ? bound : pick(bound);
    }

    private void call(String where) {
        int kind = pick(40);
        if (kind < 12) {
            hint(where, kind);
        } else if (kind == 12 && pick(4) == 0) {
            x.clear();
            model.clear();
            solutions = model.solutions();
        } else {
            question(where, kind);
        }
    }

    private void hint(String where, int kind) {
        int a = near(4);
        int b = near(4);
        // Hints are taken away half of the time, and often follow a solution, so that some solutions are left.
        boolean away = pick(2) == 0;
        if (kind < 4) {
            boolean guided = !solutions.isEmpty() && a >= 0 && a < 4 && b >= 0 && b < 4 && pick(4) != 0;
            int h = away ? 0 : guided ? solutions.get(pick(solutions.size()))[a][b] : near(5);
            Check.due(where + "given(" + a + ", " + b + ", " + h + ")", model.given(a, b, h), x.given(a, b, h));
        } else if (kind < 8) {
            int v = away ? 0 : pick(3) == 0 ? near(5) : 2;
            Check.due(where + "clue(" + a + ", " + b + ", " + v + ")", model.clue(a, b, v), x.clue(a, b, v));
        } else {
            boolean down = pick(2) == 0;
            int r = away ? 0 : near(3);
            String call = "sign(" + a + ", " + b + ", " + down + ", " + r + ")";
            Check.due(where + call, model.sign(a, b, down, r), x.sign(a, b, down, r));
        }
        solutions = model.solutions();
    }

    private void question(String where, int kind) {
        int row = near(4);
        int column = near(4);
        boolean cell = row >= 0 && row < 4 && column >= 0 && column < 4;
        if (kind % 5 == 0) {
            Check.due(where + "solutions()", solutions.size(), x.solutions());
        } else if (kind % 5 == 1) {
            int want = cell ? mask(row, column) : -1;
            Check.due(where + "possible(" + row + ", " + column + ")", want, x.possible(row, column));
        } else if (kind % 5 == 2) {
            int n = near(solutions.size() + 1);
            int want = cell && n >= 0 && n < solutions.size() ? solutions.get(n)[row][column] : 0;
            Check.due(where + "height(" + n + ", " + row + ", " + column + ")", want, x.height(n, row, column));
        } else if (kind % 5 == 3) {
            int h = near(5);
            int want = !cell ? -1 : h < 1 || h > 4 ? -2 : votes(row, column, h);
            Check.due(where + "votes(" + row + ", " + column + ", " + h + ")", want, x.votes(row, column, h));
        } else {
            Check.due(where + "fixedCells()", fixed(), x.fixedCells());
        }
    }

    private int mask(int row, int column) {
        int mask = 0;
        for (int h = 1; h <= 4; h++) {
            mask += votes(row, column, h) > 0 ? 1 << (h - 1) : 0;
        }
        return mask;
    }

    private int votes(int row, int column, int h) {
        return (int) solutions.stream().filter(grid -> grid[row][column] == h).count();
    }

    private int fixed() {
        int count = 0;
        for (int cell = 0; cell < 16; cell++) {
            count += Integer.bitCount(mask(cell / 4, cell % 4)) == 1 ? 1 : 0;
        }
        return count;
    }
}
