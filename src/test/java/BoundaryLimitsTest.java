/** Promise 11, and the bound on the number of calls under 'What it is'. */
public final class BoundaryLimitsTest {
    private static final int CALLS = 512;
    private static final int KINDS = 13;

    public static void main(String[] args) {
        placeIsTestedBeforeValue();
        neighbourIsTestedBeforeRelation();
        allAnswersUpToTheLastCall();
        eachCallAsTheLast();
        clearNearTheLastCall();
        Check.end();
    }

    /** Promise 11: "given, clue, sign and votes: BAD_CELL or BAD_PLACE is tested before BAD_VALUE." */
    private static void placeIsTestedBeforeValue() {
        for (State state : State.values()) {
            for (int[] place : Inputs.pairsOutside(0, 3, 0, 3)) {
                SkyscraperGrid x = state.make();
                for (int value : Inputs.outside(0, 4)) {
                    String at = "(" + place[0] + ", " + place[1] + ", " + value + ")";
                    Check.due("given" + at, SkyscraperGrid.BAD_CELL, x.given(place[0], place[1], value));
                    Check.due("clue" + at, SkyscraperGrid.BAD_PLACE, x.clue(place[0], place[1], value));
                }
                for (int value : Inputs.outside(0, 2)) {
                    String at = "(" + place[0] + ", " + place[1] + ", " + value + ")";
                    Check.due("right sign" + at, SkyscraperGrid.BAD_CELL, x.sign(place[0], place[1], false, value));
                    Check.due("down sign" + at, SkyscraperGrid.BAD_CELL, x.sign(place[0], place[1], true, value));
                }
                for (int value : Inputs.outside(1, 4)) {
                    String at = "(" + place[0] + ", " + place[1] + ", " + value + ")";
                    Check.due("votes" + at, SkyscraperGrid.BAD_CELL, x.votes(place[0], place[1], value));
                }
                Answers.due("place " + place[0] + ", " + place[1] + " and value refused", state, x);
            }
        }
    }

    /** Promise 11 with promise 4: a missing neighbour makes the cell a bad one. */
    private static void neighbourIsTestedBeforeRelation() {
        for (State state : State.values()) {
            for (int i = 0; i < 4; i++) {
                SkyscraperGrid x = state.make();
                for (int relation : Inputs.outside(0, 2)) {
                    String right = "sign(" + i + ", 3, false, " + relation + ")";
                    String down = "sign(3, " + i + ", true, " + relation + ")";
                    Check.due(right, SkyscraperGrid.BAD_CELL, x.sign(i, 3, false, relation));
                    Check.due(down, SkyscraperGrid.BAD_CELL, x.sign(3, i, true, relation));
                    Check.due("one step inside " + right, SkyscraperGrid.BAD_VALUE, x.sign(i, 2, false, relation));
                    Check.due("one step inside " + down, SkyscraperGrid.BAD_VALUE, x.sign(2, i, true, relation));
                }
                Answers.due("signs at edge " + i + " refused", state, x);
            }
        }
    }

    /** "An object is used for at most 512 calls after it has been made": whatever they are, all count. */
    private static void allAnswersUpToTheLastCall() {
        for (State state : State.values()) {
            for (int kind = 0; kind < KINDS; kind++) {
                SkyscraperGrid x = state.make();
                for (int calls = state.hintCalls(); calls < CALLS - Answers.CALLS; calls++) {
                    idle(x, state, kind);
                }
                Answers.due("after many calls of kind " + kind, state, x);
            }
        }
    }

    /** Each call as the 512th, after 511 of which all but the hints are of one kind. */
    private static void eachCallAsTheLast() {
        for (State state : State.values()) {
            for (int kind = 0; kind < KINDS; kind++) {
                Check.due("given as the last call", state.hintAt("given", 1, 0), used(state, kind).given(1, 0, 2));
                Check.due("clue as the last call", state.hintAt("clue", 2, 1), used(state, kind).clue(2, 1, 1));
                Check.due("right sign as the last call", state.hintAt("right", 0, 0), used(state, kind).sign(0, 0, false, 2));
                Check.due("down sign as the last call", state.hintAt("down", 1, 3), used(state, kind).sign(1, 3, true, 1));
                Check.due("solutions() as the last call", state.solutions, used(state, kind).solutions());
                Check.due("possible() as the last call", state.maskOf(3, 2), used(state, kind).possible(3, 2));
                int last = state.solutions - 1;
                Check.due("height() as the last call", state.heightIn(last, 2, 3), used(state, kind).height(last, 2, 3));
                Check.due("votes() as the last call", state.votesFor(0, 3, 4), used(state, kind).votes(0, 3, 4));
                Check.due("fixedCells() as the last call", state.fixedCells(), used(state, kind).fixedCells());
                Check.due("a refused call as the last", -2, used(state, kind).given(0, 0, 5));
            }
        }
    }

    /** The hints are set, changed and cleared over and over; the last call comes after the last clear. */
    private static void clearNearTheLastCall() {
        SkyscraperGrid x = new SkyscraperGrid();
        for (int calls = 0; calls < CALLS - Answers.CALLS - 3; calls += 4) {
            x.given(calls / 4 % 4, 1, 2);
            x.clue(3, calls / 4 % 4, 4);
            x.sign(2, calls / 4 % 4, true, 1);
            x.clear();
        }
        Answers.due("after many hints and clear()", State.NO_HINTS, x);
        SkyscraperGrid cleared = State.EVERY_HINT.make();
        for (int calls = State.EVERY_HINT.hintCalls(); calls < CALLS - 1; calls++) {
            cleared.clear();
        }
        Check.due("solutions() as the last call after clear()", 576, cleared.solutions());
    }

    private static SkyscraperGrid used(State state, int kind) {
        SkyscraperGrid x = state.make();
        for (int calls = state.hintCalls(); calls < CALLS - 1; calls++) {
            idle(x, state, kind);
        }
        return x;
    }

    /** One call that leaves the state as it is. */
    private static void idle(SkyscraperGrid x, State state, int kind) {
        switch (kind) {
            case 0 -> x.given(1, 0, state.hintAt("given", 1, 0));
            case 1 -> x.clue(2, 1, state.hintAt("clue", 2, 1));
            case 2 -> x.sign(0, 0, false, state.hintAt("right", 0, 0));
            case 3 -> x.sign(1, 3, true, state.hintAt("down", 1, 3));
            case 4 -> x.given(4, 0, 1);
            case 5 -> x.clue(0, 0, 5);
            case 6 -> x.sign(3, 3, true, 1);
            case 7 -> x.solutions();
            case 8 -> x.possible(2, 2);
            case 9 -> x.height(0, 0, 0);
            case 10 -> x.votes(1, 1, 1);
            case 11 -> x.fixedCells();
            default -> x.height(-1, 4, 4);
        }
    }
}
