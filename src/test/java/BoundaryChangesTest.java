/** The boundary cases of what changes a grid by hand: a new object, set, take, enable. */
public final class BoundaryChangesTest extends Boundary {
    public static void main(String[] args) {
        new BoundaryChangesTest().runAll(0, 4);
    }

    // Before the promises.

    /** Ever the same step done and undone, up to the last call that an object is for. */
    @Sentence(promise = 0, says = "An object is used for at most 512 calls after it has been made")
    void manyCalls() {
        HumanSteps x = Grids.made(0, LAST_FOUND);
        for (int calls = 4; calls < 508; calls += 3) {
            check.due("apply()", x.apply(), true);
            check.due("undo()", x.undo(), 0);
            check.due("find()", x.find(), 0);
        }
        check.due("call 509, apply()", x.apply(), true);
        check.due("call 510, value(5)", x.value(5), 3);
        check.due("call 511, undo()", x.undo(), 0);
        check.due("call 512, value(5)", x.value(5), -1);
    }

    @Sentence(promise = 0, says = "Each cell has CANDIDATES (all symbols at first) and is SET or not (not at first)")
    void newCells() {
        for (int kind = 0; kind < 3; kind++) {
            int n = SIZES[kind];
            HumanSteps x = new HumanSteps(kind);
            for (int cell = 0; cell < n * n; cell++) {
                check.due("candidates(" + cell + ") of kind " + kind, x.candidates(cell), (1 << n) - 1);
                check.due("value(" + cell + ") of kind " + kind, x.value(cell), -1);
            }
        }
    }

    /** The last cell of a row and the first one of the next are neighbours by number alone. */
    @Sentence(promise = 0, says = "Two cells SEE each other when they are not one and share a house")
    void seenFromTheCorners() {
        dueSeen(0, 0, " 1 2 3 4 5 8 12");
        dueSeen(0, 3, " 0 1 2 6 7 11 15");
        dueSeen(0, 4, " 0 1 5 6 7 8 12");
        dueSeen(0, 12, " 0 4 8 9 13 14 15");
        dueSeen(0, 15, " 3 7 10 11 12 13 14");
        dueSeen(1, 0, " 1 2 3 4 5 6 7 8 12 18 24 30");
        dueSeen(1, 5, " 0 1 2 3 4 9 10 11 17 23 29 35");
        dueSeen(1, 12, " 0 6 13 14 15 16 17 18 19 20 24 30");
        dueSeen(1, 35, " 5 11 17 23 27 28 29 30 31 32 33 34");
        dueSeen(2, 8, " 0 1 2 3 4 5 6 7 15 16 17 24 25 26 35 44 53 62 71 80");
        dueSeen(2, 27, " 0 9 18 28 29 30 31 32 33 34 35 36 37 38 45 46 47 54 63 72");
        dueSeen(2, 80, " 8 17 26 35 44 53 60 61 62 69 70 71 72 73 74 75 76 77 78 79");
    }

    private void dueSeen(int kind, int cell, String want) {
        HumanSteps x = new HumanSteps(kind);
        x.set(cell, 0);
        StringBuilder seen = new StringBuilder();
        for (int other = 0; other < SIZES[kind] * SIZES[kind]; other++) {
            boolean lost = other != cell && x.candidates(other) == (1 << SIZES[kind]) - 2;
            seen.append(lost ? " " + other : "");
        }
        check.due("seen from cell " + cell + " of kind " + kind, seen.toString(), want);
    }

    // Promise 1.

    @Sentence(promise = 1, says = "kind 0 .. 2")
    void kinds() {
        for (int kind = 0; kind < 3; kind++) {
            HumanSteps x = new HumanSteps(kind);
            check.due("state(3) of kind " + kind, x.state(3), SIZES[kind]);
            check.due("state(0) of kind " + kind, x.state(0), SIZES[kind] * SIZES[kind]);
        }
    }

    @Sentence(promise = 1, says = "less counts as 0")
    void lessKinds() {
        for (int kind : new int[] {LEAST, LEAST + 1, -3, -2, -1}) {
            check.due("state(3) of kind " + kind, new HumanSteps(kind).state(3), 4);
            check.due("all of kind " + kind, Grids.exam(kind, BUSY), Grids.exam(0, BUSY));
        }
    }

    @Sentence(promise = 1, says = "more as 2")
    void moreKinds() {
        Grids.Run pairs = x -> {
            Grids.leave(x, 8, 6, 7);
            Grids.leave(x, 80, 6, 7);
            x.solve(1);
            x.find();
        };
        for (int kind : new int[] {3, 4, 5, GREATEST - 1, GREATEST}) {
            check.due("state(3) of kind " + kind, new HumanSteps(kind).state(3), 9);
            check.due("all of kind " + kind, Grids.exam(kind, pairs), Grids.exam(2, pairs));
        }
    }

    // Promise 2.

    @Sentence(promise = 2, says = "A cell is set: true")
    void setAtTheEnds() {
        for (int kind = 0; kind < 3; kind++) {
            int last = SIZES[kind] * SIZES[kind] - 1;
            for (int cell : new int[] {0, last}) {
                for (int symbol : new int[] {0, SIZES[kind] - 1}) {
                    HumanSteps x = new HumanSteps(kind);
                    String call = "set(" + cell + ", " + symbol + ") of kind " + kind;
                    check.due(call, x.set(cell, symbol), true);
                    check.due("value after " + call, x.value(cell), symbol);
                    check.due("candidates after " + call, x.candidates(cell), 1 << symbol);
                    check.due("the other end after " + call, x.candidates(last - cell), (1 << SIZES[kind]) - 1);
                }
            }
        }
    }

    @Sentence(promise = 2, says = "A cell is set: true")
    void setTheLastOpenCell() {
        HumanSteps x = Grids.allButOne();
        check.due("set(15, 0), the only candidate", x.set(15, 0), true);
        check.due("value(15)", x.value(15), 0);
        check.due("state(0)", x.state(0), 0);
        for (int symbol = 0; symbol < 4; symbol++) {
            check.due("set(15, " + symbol + ") of a full grid", x.set(15, symbol), false);
        }
    }

    @Sentence(promise = 2, says = "A cell is set: true")
    void setOnABrokenGrid() {
        HumanSteps x = Grids.made(0, y -> Grids.leave(y, 0));
        check.due("set(15, 3) of a broken grid", x.set(15, 3), true);
        check.due("value(15)", x.value(15), 3);
        check.due("candidates(14)", x.candidates(14), 7);
    }

    @Sentence(promise = 2, says = "false, doing nothing, when the symbol is no candidate of it")
    void setNoCandidate() {
        dueSetFalse(BUSY, 2, 0);
        dueSetFalse(BUSY, 11, 1);
        dueSetFalse(BUSY, 13, 2);
        Grids.Run taken = x -> {
            x.take(15, 3);
            BUSY.on(x);
        };
        dueSetFalse(taken, 15, 3);
        for (int symbol = 0; symbol < 4; symbol++) {
            dueSetFalse(x -> Grids.leave(x, 15), 15, symbol);
        }
    }

    @Sentence(promise = 2, says = "or it is set already")
    void setTwice() {
        for (int symbol = 0; symbol < 4; symbol++) {
            dueSetFalse(BUSY, 0, symbol);
            dueSetFalse(BUSY, 5, symbol);
            dueSetFalse(BUSY, 9, symbol);
        }
    }

    private void dueSetFalse(Grids.Run before, int cell, int symbol) {
        String call = "set(" + cell + ", " + symbol + ")";
        check.due(call, Grids.made(0, before).set(cell, symbol), false);
        dueNothingDone(call, 0, before, x -> x.set(cell, symbol));
    }

    @Sentence(promise = 2, says = "What was found is gone.")
    void setEndsWhatIsFound() {
        int[][] calls = {{15, 0}, {7, 0}, {11, 0}, {2, 3}};
        for (int[] call : calls) {
            HumanSteps x = Grids.made(0, BUSY);
            check.due("set(" + call[0] + ", " + call[1] + ")", x.set(call[0], call[1]), true);
            dueNothingFound("after set()", x);
            check.due("apply() after set()", x.apply(), false);
            check.due("state(4) after set()", x.state(4), 3);
            Grids.Run change = y -> y.set(call[0], call[1]);
            check.due("all after set(), found or not",
                Grids.exam(0, BUSY, change), Grids.exam(0, BUSY, y -> y.solve(0), change));
        }
    }

    @Sentence(promise = 2, says = "ArrayIndexOutOfBoundsException: there is no such cell.")
    void setNoSuchCell() {
        for (int kind = 0; kind < 3; kind++) {
            for (int cell : noCells(SIZES[kind])) {
                HumanSteps x = new HumanSteps(kind);
                check.dueThrow("set(" + cell + ", 0) of kind " + kind, NO_SUCH_PLACE, () -> x.set(cell, 0));
                check.dueThrow("set(" + cell + ", 3) of kind " + kind, NO_SUCH_PLACE, () -> x.set(cell, 3));
            }
        }
        for (int cell : noCells(4)) {
            dueThrowDoingNothing("set(" + cell + ", 3)", NO_SUCH_PLACE, x -> x.set(cell, 3));
        }
    }

    @Sentence(promise = 2, says = "IllegalArgumentException: no such symbol.")
    void setNoSuchSymbol() {
        for (int kind = 0; kind < 3; kind++) {
            int last = SIZES[kind] * SIZES[kind] - 1;
            for (int symbol : noSymbols(SIZES[kind])) {
                HumanSteps x = new HumanSteps(kind);
                check.dueThrow("set(0, " + symbol + ") of kind " + kind, NO_SUCH_SYMBOL, () -> x.set(0, symbol));
                check.dueThrow("set(last, " + symbol + ") of kind " + kind, NO_SUCH_SYMBOL,
                    () -> x.set(last, symbol));
            }
        }
        for (int symbol : noSymbols(4)) {
            dueThrowDoingNothing("set(15, " + symbol + ")", NO_SUCH_SYMBOL, x -> x.set(15, symbol));
            dueThrowDoingNothing("set(0, " + symbol + ") of a set cell", NO_SUCH_SYMBOL, x -> x.set(0, symbol));
        }
    }

    // Promise 3.

    @Sentence(promise = 3, says = "A candidate of an open cell is taken: true")
    void takeAtTheEnds() {
        for (int kind = 0; kind < 3; kind++) {
            int all = (1 << SIZES[kind]) - 1;
            int last = SIZES[kind] * SIZES[kind] - 1;
            for (int cell : new int[] {0, last}) {
                for (int symbol : new int[] {0, SIZES[kind] - 1}) {
                    HumanSteps x = new HumanSteps(kind);
                    String call = "take(" + cell + ", " + symbol + ") of kind " + kind;
                    check.due(call, x.take(cell, symbol), true);
                    for (int other = 0; other <= last; other++) {
                        int want = other == cell ? all - (1 << symbol) : all;
                        check.due("candidates(" + other + ") after " + call, x.candidates(other), want);
                        check.due("value(" + other + ") after " + call, x.value(other), -1);
                    }
                }
            }
        }
    }

    /** A cell may lose its last candidate; with but one left it is still open. */
    @Sentence(promise = 3, says = "A candidate of an open cell is taken: true")
    void takeTheLastCandidate() {
        HumanSteps x = new HumanSteps(0);
        int[] left = {14, 12, 8, 0};
        for (int symbol = 0; symbol < 4; symbol++) {
            check.due("state(2) before take(6, " + symbol + ")", x.state(2), 0);
            check.due("take(6, " + symbol + ")", x.take(6, symbol), true);
            check.due("candidates(6)", x.candidates(6), left[symbol]);
            check.due("value(6)", x.value(6), -1);
        }
        check.due("state(2)", x.state(2), 1);
        check.due("take(5, 0) of a broken grid", x.take(5, 0), true);
        check.due("candidates(5)", x.candidates(5), 14);
    }

    @Sentence(promise = 3, says = "false, doing nothing, when it is none")
    void takeNoCandidate() {
        dueTakeFalse(BUSY, 2, 0);
        dueTakeFalse(BUSY, 11, 1);
        dueTakeFalse(BUSY, 13, 2);
        dueTakeFalse(x -> {
            x.take(15, 3);
            BUSY.on(x);
        }, 15, 3);
        for (int symbol = 0; symbol < 4; symbol++) {
            dueTakeFalse(x -> Grids.leave(x, 15), 15, symbol);
        }
    }

    @Sentence(promise = 3, says = "or the cell is set.")
    void takeFromASetCell() {
        for (int symbol = 0; symbol < 4; symbol++) {
            dueTakeFalse(BUSY, 0, symbol);
            dueTakeFalse(BUSY, 5, symbol);
            dueTakeFalse(BUSY, 9, symbol);
        }
    }

    private void dueTakeFalse(Grids.Run before, int cell, int symbol) {
        String call = "take(" + cell + ", " + symbol + ")";
        check.due(call, Grids.made(0, before).take(cell, symbol), false);
        dueNothingDone(call, 0, before, x -> x.take(cell, symbol));
    }

    @Sentence(promise = 3, says = "What was found is gone.")
    void takeEndsWhatIsFound() {
        int[][] calls = {{15, 0}, {7, 0}, {11, 0}, {2, 3}};
        for (int[] call : calls) {
            HumanSteps x = Grids.made(0, BUSY);
            check.due("take(" + call[0] + ", " + call[1] + ")", x.take(call[0], call[1]), true);
            dueNothingFound("after take()", x);
            check.due("apply() after take()", x.apply(), false);
            check.due("state(4) after take()", x.state(4), 3);
            Grids.Run change = y -> y.take(call[0], call[1]);
            check.due("all after take(), found or not",
                Grids.exam(0, BUSY, change), Grids.exam(0, BUSY, y -> y.solve(0), change));
        }
    }

    @Sentence(promise = 3, says = "Exceptions as of set().")
    void takeNoSuchCell() {
        for (int kind = 0; kind < 3; kind++) {
            for (int cell : noCells(SIZES[kind])) {
                HumanSteps x = new HumanSteps(kind);
                check.dueThrow("take(" + cell + ", 0) of kind " + kind, NO_SUCH_PLACE, () -> x.take(cell, 0));
                check.dueThrow("take(" + cell + ", 3) of kind " + kind, NO_SUCH_PLACE, () -> x.take(cell, 3));
            }
        }
        for (int cell : noCells(4)) {
            dueThrowDoingNothing("take(" + cell + ", 3)", NO_SUCH_PLACE, x -> x.take(cell, 3));
        }
    }

    @Sentence(promise = 3, says = "Exceptions as of set().")
    void takeNoSuchSymbol() {
        for (int kind = 0; kind < 3; kind++) {
            int last = SIZES[kind] * SIZES[kind] - 1;
            for (int symbol : noSymbols(SIZES[kind])) {
                HumanSteps x = new HumanSteps(kind);
                check.dueThrow("take(0, " + symbol + ") of kind " + kind, NO_SUCH_SYMBOL, () -> x.take(0, symbol));
                check.dueThrow("take(last, " + symbol + ") of kind " + kind, NO_SUCH_SYMBOL,
                    () -> x.take(last, symbol));
            }
        }
        for (int symbol : noSymbols(4)) {
            dueThrowDoingNothing("take(15, " + symbol + ")", NO_SUCH_SYMBOL, x -> x.take(15, symbol));
            dueThrowDoingNothing("take(0, " + symbol + ") of a set cell", NO_SUCH_SYMBOL, x -> x.take(0, symbol));
        }
    }

    // Promise 4.

    @Sentence(promise = 4, says = "A step is switched on (or off): true")
    void enableEachStep() {
        for (int step = 0; step < 19; step++) {
            HumanSteps x = new HumanSteps(0);
            boolean on = step != 18;
            check.due("enable(" + step + ", " + !on + ")", x.enable(step, !on), true);
            for (int other = 0; other < 19; other++) {
                boolean isOn = other == step ? !on : other != 18;
                check.due("enable(" + other + ") as it is", x.enable(other, isOn), false);
            }
            check.due("enable(" + step + ", " + on + ")", x.enable(step, on), true);
            check.due("enable(" + step + ", " + on + ") again", x.enable(step, on), false);
        }
    }

    @Sentence(promise = 4, says = "false when it is so already")
    void enableAsItIs() {
        for (int step = 0; step < 19; step++) {
            int which = step;
            boolean on = step != 18 && step != 7;
            check.due("enable(" + step + ", " + on + ")", Grids.made(0, BUSY).enable(step, on), false);
            dueNothingDone("enable(" + step + ", " + on + ")", x -> x.enable(which, on));
        }
    }

    @Sentence(promise = 0, says = "(switched off at first)")
    void switchedOffAtFirst() {
        for (int kind = 0; kind < 3; kind++) {
            HumanSteps x = new HumanSteps(kind);
            for (int step = 0; step < 18; step++) {
                check.due("enable(" + step + ", true) at first", x.enable(step, true), false);
            }
            check.due("enable(18, true) at first", x.enable(18, true), true);
        }
    }

    @Sentence(promise = 4, says = "What was found is gone, if it was changed.")
    void enableEndsWhatIsFound() {
        for (int step = 0; step < 19; step++) {
            HumanSteps x = Grids.made(0, BUSY);
            boolean on = step == 18 || step == 7;
            check.due("enable(" + step + ", " + on + ")", x.enable(step, on), true);
            dueNothingFound("after enable()", x);
            check.due("apply() after enable()", x.apply(), false);
            x.enable(step, !on);
            check.due("find() with all as before", x.find(), 0);
            check.due("found(3) with all as before", x.found(3), 7);
        }
    }

    /** No more than what was found: the grid, the counts and what undo() leads back to stay. */
    @Sentence(promise = 4, says = "What was found is gone, if it was changed.")
    void enableEndsNothingElse() {
        String want = Grids.exam(0, BUSY, x -> x.solve(0));
        check.due("all after enable() there and back", Grids.exam(0, BUSY, x -> {
            x.enable(0, false);
            x.enable(0, true);
        }), want);
    }

    @Sentence(promise = 4, says = "ArrayIndexOutOfBoundsException: there is no such step.")
    void enableNoSuchStep() {
        for (int step : NO_STEPS) {
            dueThrowDoingNothing("enable(" + step + ", true)", NO_SUCH_PLACE, x -> x.enable(step, true));
            dueThrowDoingNothing("enable(" + step + ", false)", NO_SUCH_PLACE, x -> x.enable(step, false));
        }
    }
}
