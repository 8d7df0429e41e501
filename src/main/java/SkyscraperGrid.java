/**
 * A puzzle on a grid of four rows and four columns: the hints set so far, and what their solutions say.
 *
 * <p>All grids without a repeated height are listed once, in the order of solutions. Every question
 * goes through that list and keeps to the grids that the hints allow, so that no answer can be stale.
 *
 * <p>A line is packed into eight bits and a grid into thirty-two, two bits for each cell (its height
 * less one), the first cell in the highest bits: counting up then follows the order of solutions.
 */
public final class SkyscraperGrid {
    public static final int BAD_CELL = -1;
    public static final int BAD_VALUE = -2;
    public static final int BAD_PLACE = -3;
    public static final int LEFT = 0;
    public static final int RIGHT = 1;
    public static final int TOP = 2;
    public static final int BOTTOM = 3;
    public static final int NONE = 0;
    public static final int LESS = 1;
    public static final int MORE = 2;

    private static final int SIZE = 4;
    private static final int CELLS = 16;
    private static final int PLACES = 16;
    private static final int LINE_CODES = 256;
    private static final int LINES = 24;
    private static final int GRIDS = 576;

    private final int[] givens = new int[CELLS];
    private final int[] clues = new int[PLACES];
    private final int[] rightSigns = new int[CELLS];
    private final int[] downSigns = new int[CELLS];
    private final int[] lines = new int[LINES];
    private final int[] grids = new int[GRIDS];

    public SkyscraperGrid() {
        listLines();
        listGrids();
    }

    public int given(int row, int column, int height) {
        if (!isCell(row, column)) {
            return BAD_CELL;
        }
        if (height < 0 || height > SIZE) {
            return BAD_VALUE;
        }
        int cell = row * SIZE + column;
        int old = givens[cell];
        givens[cell] = height;
        return old;
    }

    public int clue(int side, int index, int visible) {
        if (side < LEFT || side > BOTTOM || index < 0 || index >= SIZE) {
            return BAD_PLACE;
        }
        if (visible < 0 || visible > SIZE) {
            return BAD_VALUE;
        }
        int place = side * SIZE + index;
        int old = clues[place];
        clues[place] = visible;
        return old;
    }

    public int sign(int row, int column, boolean down, int relation) {
        if (!isCell(row, column) || !hasNeighbour(row, column, down)) {
            return BAD_CELL;
        }
        if (relation < NONE || relation > MORE) {
            return BAD_VALUE;
        }
        int cell = row * SIZE + column;
        int old = down ? downSigns[cell] : rightSigns[cell];
        if (down) {
            downSigns[cell] = relation;
        } else {
            rightSigns[cell] = relation;
        }
        return old;
    }

    public void clear() {
        for (int cell = 0; cell < CELLS; cell++) {
            givens[cell] = 0;
            rightSigns[cell] = NONE;
            downSigns[cell] = NONE;
        }
        for (int place = 0; place < PLACES; place++) {
            clues[place] = 0;
        }
    }

    public int solutions() {
        int count = 0;
        for (int i = 0; i < GRIDS; i++) {
            if (isSolution(grids[i])) {
                count++;
            }
        }
        return count;
    }

    public int possible(int row, int column) {
        if (!isCell(row, column)) {
            return BAD_CELL;
        }
        int cell = row * SIZE + column;
        int mask = 0;
        for (int i = 0; i < GRIDS; i++) {
            if (isSolution(grids[i])) {
                int found = heightAt(grids[i], cell);
                mask |= 1 << (found - 1);
            }
        }
        return mask;
    }

    public int height(int n, int row, int column) {
        if (!isCell(row, column)) {
            return 0;
        }
        int cell = row * SIZE + column;
        int number = 0;
        for (int i = 0; i < GRIDS; i++) {
            if (isSolution(grids[i])) {
                if (number == n) {
                    return heightAt(grids[i], cell);
                }
                number++;
            }
        }
        return 0;
    }

    public int votes(int row, int column, int height) {
        if (!isCell(row, column)) {
            return BAD_CELL;
        }
        if (height < 1 || height > SIZE) {
            return BAD_VALUE;
        }
        int cell = row * SIZE + column;
        int count = 0;
        for (int i = 0; i < GRIDS; i++) {
            if (heightAt(grids[i], cell) == height && isSolution(grids[i])) {
                count++;
            }
        }
        return count;
    }

    public int fixedCells() {
        boolean found = false;
        int first = 0;
        int varying = 0;
        for (int i = 0; i < GRIDS; i++) {
            if (isSolution(grids[i])) {
                if (!found) {
                    found = true;
                    first = grids[i];
                }
                varying |= grids[i] ^ first;
            }
        }
        return found ? equalCells(varying) : 0;
    }

    private static boolean isCell(int row, int column) {
        return row >= 0 && row < SIZE && column >= 0 && column < SIZE;
    }

    private static boolean hasNeighbour(int row, int column, boolean down) {
        return down ? row < SIZE - 1 : column < SIZE - 1;
    }

    private static int heightAt(int grid, int cell) {
        return (grid >>> (2 * (CELLS - 1 - cell)) & 3) + 1;
    }

    /** How many cells have no bit in which packed grids differ. */
    private static int equalCells(int differences) {
        int count = 0;
        for (int cell = 0; cell < CELLS; cell++) {
            if ((differences >>> (2 * cell) & 3) == 0) {
                count++;
            }
        }
        return count;
    }

    private boolean isSolution(int grid) {
        return givensHold(grid) && signsHold(grid) && cluesHold(grid);
    }

    private boolean givensHold(int grid) {
        for (int cell = 0; cell < CELLS; cell++) {
            if (givens[cell] != 0 && givens[cell] != heightAt(grid, cell)) {
                return false;
            }
        }
        return true;
    }

    private boolean signsHold(int grid) {
        for (int cell = 0; cell < CELLS; cell++) {
            if (!signHolds(rightSigns[cell], grid, cell, cell + 1)) {
                return false;
            }
            if (!signHolds(downSigns[cell], grid, cell, cell + SIZE)) {
                return false;
            }
        }
        return true;
    }

    private static boolean signHolds(int relation, int grid, int cell, int neighbour) {
        // A cell at the edge never has a sign, so its missing neighbour is not looked at.
        if (relation == NONE) {
            return true;
        }
        int own = heightAt(grid, cell);
        int other = heightAt(grid, neighbour);
        return relation == LESS ? own < other : own > other;
    }

    private boolean cluesHold(int grid) {
        for (int place = 0; place < PLACES; place++) {
            if (clues[place] != 0 && clues[place] != visibleFrom(grid, place / SIZE, place % SIZE)) {
                return false;
            }
        }
        return true;
    }

    private static int visibleFrom(int grid, int side, int index) {
        int cell = firstCell(side, index);
        int step = stepFrom(side);
        int highest = 0;
        int count = 0;
        for (int i = 0; i < SIZE; i++) {
            int found = heightAt(grid, cell + i * step);
            if (found > highest) {
                highest = found;
                count++;
            }
        }
        return count;
    }

    private static int firstCell(int side, int index) {
        switch (side) {
            case LEFT:
                return index * SIZE;
            case RIGHT:
                return index * SIZE + SIZE - 1;
            case TOP:
                return index;
            default:
                return CELLS - SIZE + index;
        }
    }

    private static int stepFrom(int side) {
        switch (side) {
            case LEFT:
                return 1;
            case RIGHT:
                return -1;
            case TOP:
                return SIZE;
            default:
                return -SIZE;
        }
    }

    private void listLines() {
        int count = 0;
        for (int code = 0; code < LINE_CODES; code++) {
            if (count < LINES && hasAllHeights(code)) {
                lines[count] = code;
                count++;
            }
        }
    }

    private static boolean hasAllHeights(int line) {
        int seen = 0;
        for (int i = 0; i < SIZE; i++) {
            seen |= 1 << (line >>> (2 * i) & 3);
        }
        return seen == 15;
    }

    private void listGrids() {
        int count = 0;
        for (int a = 0; a < LINES; a++) {
            for (int b = 0; b < LINES; b++) {
                if (clash(lines[a], lines[b])) {
                    continue;
                }
                for (int c = 0; c < LINES; c++) {
                    if (clash(lines[a], lines[c]) || clash(lines[b], lines[c])) {
                        continue;
                    }
                    for (int d = 0; d < LINES; d++) {
                        if (clash(lines[a], lines[d]) || clash(lines[b], lines[d]) || clash(lines[c], lines[d])) {
                            continue;
                        }
                        if (count < GRIDS) {
                            grids[count] = lines[a] << 24 | lines[b] << 16 | lines[c] << 8 | lines[d];
                            count++;
                        }
                    }
                }
            }
        }
    }

    /** Whether two lines have the same height in one column. */
    private static boolean clash(int line, int other) {
        int differences = line ^ other;
        return (differences & 3) == 0 || (differences & 12) == 0 || (differences & 48) == 0 || (differences & 192) == 0;
    }
}
