import java.util.ArrayList;
import java.util.List;

/** The document's words, written a second time and in another way, to compare the program with. */
final class Model {
    private int[][] givens = new int[4][4];
    private int[][] clues = new int[4][4];
    private int[][][] signs = new int[2][4][4];

    int given(int row, int column, int height) {
        if (outside(row, 3) || outside(column, 3)) {
            return -1;
        }
        if (outside(height, 4)) {
            return -2;
        }
        int old = givens[row][column];
        givens[row][column] = height;
        return old;
    }

    int clue(int side, int index, int visible) {
        if (outside(side, 3) || outside(index, 3)) {
            return -3;
        }
        if (outside(visible, 4)) {
            return -2;
        }
        int old = clues[side][index];
        clues[side][index] = visible;
        return old;
    }

    int sign(int row, int column, boolean down, int relation) {
        if (outside(row, down ? 2 : 3) || outside(column, down ? 3 : 2)) {
            return -1;
        }
        if (outside(relation, 2)) {
            return -2;
        }
        int[][] kind = signs[down ? 1 : 0];
        int old = kind[row][column];
        kind[row][column] = relation;
        return old;
    }

    void clear() {
        givens = new int[4][4];
        clues = new int[4][4];
        signs = new int[2][4][4];
    }

    /** In the order of solutions, since the search tries the cells in that order and low heights first. */
    List<int[][]> solutions() {
        List<int[][]> found = new ArrayList<>();
        search(new int[4][4], 0, found);
        return found;
    }

    private void search(int[][] grid, int cell, List<int[][]> found) {
        if (cell == 16) {
            if (cluesHold(grid) && signsHold(grid)) {
                found.add(new int[][] {grid[0].clone(), grid[1].clone(), grid[2].clone(), grid[3].clone()});
            }
            return;
        }
        int row = cell / 4;
        int column = cell % 4;
        for (int h = 1; h <= 4; h++) {
            boolean allowed = givens[row][column] == 0 || givens[row][column] == h;
            for (int k = 0; k < column; k++) {
                allowed &= grid[row][k] != h;
            }
            for (int k = 0; k < row; k++) {
                allowed &= grid[k][column] != h;
            }
            if (allowed) {
                grid[row][column] = h;
                search(grid, cell + 1, found);
                grid[row][column] = 0;
            }
        }
    }

    private boolean cluesHold(int[][] g) {
        for (int i = 0; i < 4; i++) {
            boolean rowHolds = seen(clues[0][i], g[i][0], g[i][1], g[i][2], g[i][3])
                && seen(clues[1][i], g[i][3], g[i][2], g[i][1], g[i][0]);
            boolean columnHolds = seen(clues[2][i], g[0][i], g[1][i], g[2][i], g[3][i])
                && seen(clues[3][i], g[3][i], g[2][i], g[1][i], g[0][i]);
            if (!rowHolds || !columnHolds) {
                return false;
            }
        }
        return true;
    }

    private static boolean seen(int clue, int a, int b, int c, int d) {
        int visible = 1 + (b > a ? 1 : 0) + (c > a && c > b ? 1 : 0) + (d > a && d > b && d > c ? 1 : 0);
        return clue == 0 || clue == visible;
    }

    private boolean signsHold(int[][] g) {
        for (int i = 0; i < 4; i++) {
            for (int k = 0; k < 3; k++) {
                if (!related(signs[0][i][k], g[i][k], g[i][k + 1]) || !related(signs[1][k][i], g[k][i], g[k + 1][i])) {
                    return false;
                }
            }
        }
        return true;
    }

    private static boolean related(int relation, int a, int b) {
        return relation == 0 || (relation == 1) == (a < b);
    }

    private static boolean outside(int value, int last) {
        return value < 0 || value > last;
    }
}
