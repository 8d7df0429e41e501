/** The sentences of promises 1 to 5 that name a boundary case, a test for each. */
public final class BoundaryHintsTest {
    public static void main(String[] args) {
        newObjectHasNoHints();
        givenIsTakenAway();
        givenOutsideTheGrid();
        givenOfNoHeight();
        givenAnswersTheOldOne();
        clueIsTakenAway();
        clueOutsideTheGrid();
        clueOfNoNumber();
        clueAnswersTheOldOne();
        signIsTakenAway();
        signOutsideTheGrid();
        signWithoutNeighbour();
        signOfNoRelation();
        signAnswersTheOldOne();
        clearTakesAllHintsAway();
        Check.end();
    }

    /** Promise 1: "No hints." */
    private static void newObjectHasNoHints() {
        Answers.due("first object", State.NO_HINTS, new SkyscraperGrid());
        SkyscraperGrid full = State.EVERY_HINT.make();
        Answers.due("beside a full object", State.NO_HINTS, new SkyscraperGrid());
        Answers.due("beside a new object", State.EVERY_HINT, full);
    }

    /** Promise 2: "or takes it away (height 0)" */
    private static void givenIsTakenAway() {
        for (int cell = 0; cell < 16; cell++) {
            for (int h = 1; h <= 4; h++) {
                SkyscraperGrid x = new SkyscraperGrid();
                x.given(cell / 4, cell % 4, h);
                Check.due("given " + h + " of cell " + cell + " taken away", h, x.given(cell / 4, cell % 4, 0));
                Answers.due("given " + h + " of cell " + cell + " taken away", State.NO_HINTS, x);
            }
        }
        for (State state : State.values()) {
            SkyscraperGrid x = state.make();
            Check.due("given where there is none", state.hintAt("given", 3, 1), x.given(3, 1, 0));
            x.given(3, 1, state.hintAt("given", 3, 1));
            Answers.due("given where there is none taken away", state, x);
        }
    }

    /** Promise 2: "row or column not in 0 to 3: BAD_CELL" and "nothing changes then" */
    private static void givenOutsideTheGrid() {
        for (State state : State.values()) {
            for (int[] cell : Inputs.pairsOutside(0, 3, 0, 3)) {
                for (int h = 0; h <= 4; h++) {
                    givenRefused(state, cell[0], cell[1], h, SkyscraperGrid.BAD_CELL);
                }
            }
        }
    }

    /** Promise 2: "height not in 0 to 4: BAD_VALUE; nothing changes then." */
    private static void givenOfNoHeight() {
        for (State state : State.values()) {
            for (int cell = 0; cell < 16; cell++) {
                for (int h : Inputs.outside(0, 4)) {
                    givenRefused(state, cell / 4, cell % 4, h, SkyscraperGrid.BAD_VALUE);
                }
            }
        }
    }

    private static void givenRefused(State state, int row, int column, int h, int want) {
        String call = "given(" + row + ", " + column + ", " + h + ")";
        SkyscraperGrid x = state.make();
        Check.due(state + ", " + call, want, x.given(row, column, h));
        Answers.due("after " + call, state, x);
    }

    /** Promise 2: "Else answers the old one (0 if none)." */
    private static void givenAnswersTheOldOne() {
        for (int cell = 0; cell < 16; cell++) {
            SkyscraperGrid x = new SkyscraperGrid();
            for (int old = 0; old <= 4; old++) {
                for (int h = 0; h <= 4; h++) {
                    x.given(cell / 4, cell % 4, old);
                    Check.due("given " + h + " of cell " + cell, old, x.given(cell / 4, cell % 4, h));
                }
            }
        }
    }

    /** Promise 3: "or takes it away (visible 0)" */
    private static void clueIsTakenAway() {
        for (int place = 0; place < 16; place++) {
            for (int v = 1; v <= 4; v++) {
                SkyscraperGrid x = new SkyscraperGrid();
                x.clue(place / 4, place % 4, v);
                Check.due("clue " + v + " at place " + place + " taken away", v, x.clue(place / 4, place % 4, 0));
                Answers.due("clue " + v + " at place " + place + " taken away", State.NO_HINTS, x);
            }
        }
        for (State state : State.values()) {
            SkyscraperGrid x = state.make();
            Check.due("clue where there is none", state.hintAt("clue", 2, 2), x.clue(2, 2, 0));
            x.clue(2, 2, state.hintAt("clue", 2, 2));
            Answers.due("clue where there is none taken away", state, x);
        }
    }

    /** Promise 3: "side not in 0 to 3, or index not in 0 to 3: BAD_PLACE" and "nothing changes then" */
    private static void clueOutsideTheGrid() {
        for (State state : State.values()) {
            for (int[] place : Inputs.pairsOutside(0, 3, 0, 3)) {
                for (int v = 0; v <= 4; v++) {
                    clueRefused(state, place[0], place[1], v, SkyscraperGrid.BAD_PLACE);
                }
            }
        }
    }

    /** Promise 3: "visible not in 0 to 4: BAD_VALUE; nothing changes then." */
    private static void clueOfNoNumber() {
        for (State state : State.values()) {
            for (int place = 0; place < 16; place++) {
                for (int v : Inputs.outside(0, 4)) {
                    clueRefused(state, place / 4, place % 4, v, SkyscraperGrid.BAD_VALUE);
                }
            }
        }
    }

    private static void clueRefused(State state, int side, int index, int v, int want) {
        String call = "clue(" + side + ", " + index + ", " + v + ")";
        SkyscraperGrid x = state.make();
        Check.due(state + ", " + call, want, x.clue(side, index, v));
        Answers.due("after " + call, state, x);
    }

    /** Promise 3: "Else answers the old one (0 if none)." */
    private static void clueAnswersTheOldOne() {
        for (int place = 0; place < 16; place++) {
            SkyscraperGrid x = new SkyscraperGrid();
            for (int old = 0; old <= 4; old++) {
                for (int v = 0; v <= 4; v++) {
                    x.clue(place / 4, place % 4, old);
                    Check.due("clue " + v + " at place " + place, old, x.clue(place / 4, place % 4, v));
                }
            }
        }
    }

    /** Promise 4: "or takes it away" */
    private static void signIsTakenAway() {
        for (int i = 0; i < 24; i++) {
            boolean down = i >= 12;
            int row = down ? i / 4 - 3 : i / 3;
            int column = down ? i % 4 : i % 3;
            for (int relation = 1; relation <= 2; relation++) {
                String what = "sign(" + row + ", " + column + ", " + down + ", " + relation + ") taken away";
                SkyscraperGrid x = new SkyscraperGrid();
                x.sign(row, column, down, relation);
                Check.due(what, relation, x.sign(row, column, down, SkyscraperGrid.NONE));
                Answers.due(what, State.NO_HINTS, x);
            }
        }
        for (State state : State.values()) {
            SkyscraperGrid x = state.make();
            Check.due("sign to the right where there is none", state.hintAt("right", 3, 2), x.sign(3, 2, false, 0));
            Check.due("sign downwards where there is none", state.hintAt("down", 2, 3), x.sign(2, 3, true, 0));
            x.sign(3, 2, false, state.hintAt("right", 3, 2));
            x.sign(2, 3, true, state.hintAt("down", 2, 3));
            Answers.due("signs where there are none taken away", state, x);
        }
    }

    /** Promise 4: "row or column not in 0 to 3 [..]: BAD_CELL" and "nothing changes then" */
    private static void signOutsideTheGrid() {
        for (State state : State.values()) {
            for (int[] cell : Inputs.pairsOutside(0, 3, 0, 3)) {
                for (int relation = 0; relation <= 2; relation++) {
                    signRefused(state, cell[0], cell[1], false, relation, SkyscraperGrid.BAD_CELL);
                    signRefused(state, cell[0], cell[1], true, relation, SkyscraperGrid.BAD_CELL);
                }
            }
        }
    }

    /** Promise 4: "or there is no such neighbour: BAD_CELL"; one step inside, and in the other direction, there is one. */
    private static void signWithoutNeighbour() {
        for (State state : State.values()) {
            for (int i = 0; i < 4; i++) {
                for (int relation = 0; relation <= 2; relation++) {
                    signRefused(state, i, 3, false, relation, SkyscraperGrid.BAD_CELL);
                    signRefused(state, 3, i, true, relation, SkyscraperGrid.BAD_CELL);
                }
                signTaken(state, i, 2, false);
                signTaken(state, 2, i, true);
            }
            for (int i = 0; i < 3; i++) {
                signTaken(state, 3, i, false);
                signTaken(state, i, 3, true);
            }
        }
    }

    private static void signTaken(State state, int row, int column, boolean down) {
        int old = state.hintAt(down ? "down" : "right", row, column);
        for (int relation = 0; relation <= 2; relation++) {
            String call = "sign(" + row + ", " + column + ", " + down + ", " + relation + ")";
            SkyscraperGrid x = state.make();
            Check.due(state + ", " + call, old, x.sign(row, column, down, relation));
            Check.due(state + ", " + call + " again", relation, x.sign(row, column, down, old));
            Answers.due("after " + call + " and back", state, x);
        }
    }

    /** Promise 4: "relation not in 0 to 2: BAD_VALUE; nothing changes then." */
    private static void signOfNoRelation() {
        for (State state : State.values()) {
            for (int i = 0; i < 12; i++) {
                for (int relation : Inputs.outside(0, 2)) {
                    signRefused(state, i / 3, i % 3, false, relation, SkyscraperGrid.BAD_VALUE);
                    signRefused(state, i / 4, i % 4, true, relation, SkyscraperGrid.BAD_VALUE);
                }
            }
        }
    }

    private static void signRefused(State state, int row, int column, boolean down, int relation, int want) {
        String call = "sign(" + row + ", " + column + ", " + down + ", " + relation + ")";
        SkyscraperGrid x = state.make();
        Check.due(state + ", " + call, want, x.sign(row, column, down, relation));
        Answers.due("after " + call, state, x);
    }

    /** Promise 4: "Else answers the old one." */
    private static void signAnswersTheOldOne() {
        for (int i = 0; i < 12; i++) {
            SkyscraperGrid x = new SkyscraperGrid();
            for (int old = 0; old <= 2; old++) {
                for (int relation = 0; relation <= 2; relation++) {
                    x.sign(i / 3, i % 3, false, old);
                    x.sign(i / 4, i % 4, true, 2 - old);
                    String what = "sign " + relation + ", number " + i;
                    Check.due(what + " to the right", old, x.sign(i / 3, i % 3, false, relation));
                    Check.due(what + " downwards", 2 - old, x.sign(i / 4, i % 4, true, relation));
                }
            }
        }
    }

    /** Promise 5: "Takes all hints away." */
    private static void clearTakesAllHintsAway() {
        for (State state : State.values()) {
            SkyscraperGrid x = state.make();
            x.clear();
            Answers.due(state + " cleared", State.NO_HINTS, x);
            x = state.make();
            x.clear();
            x.clear();
            Answers.due(state + " cleared twice", State.NO_HINTS, x);
        }
    }
}
