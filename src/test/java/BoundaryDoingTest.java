/** The boundary cases of steps that are done, undone and counted: apply, solve, undo, done. */
public final class BoundaryDoingTest extends Boundary {
    public static void main(String[] args) {
        new BoundaryDoingTest().runAll(9, 12);
    }

    /** Thirty cells by hand; step 0 alone leads to the end, in 51 steps. */
    private static final Grids.Run PUZZLE = x -> {
        int[] symbols = {
            4, 2, -1, -1, 6, -1, -1, -1, -1,
            5, -1, -1, 0, 8, 4, -1, -1, -1,
            -1, 8, 7, -1, -1, -1, -1, 5, -1,
            7, -1, -1, -1, 5, -1, -1, -1, 2,
            3, -1, -1, 7, -1, 2, -1, -1, 0,
            6, -1, -1, -1, 1, -1, -1, -1, 5,
            -1, 5, -1, -1, -1, -1, 1, 7, -1,
            -1, -1, -1, 3, 0, 8, -1, -1, 4,
            -1, -1, -1, -1, 7, -1, -1, 6, 8};
        for (int cell = 0; cell < 81; cell++) {
            if (symbols[cell] >= 0) {
                x.set(cell, symbols[cell]);
            }
        }
    };

    /** The first step sets cell 0 and leaves cell 1 without a candidate. */
    private static final Grids.Run BREAKS = x -> {
        Grids.leave(x, 0, 0);
        Grids.leave(x, 1, 0);
    };

    // Promise 9.

    @Sentence(promise = 9, says = "What was found is done, and nothing is found then: true")
    void applyEnds() {
        HumanSteps x = Grids.made(0, BUSY);
        check.due("apply()", x.apply(), true);
        dueNothingFound("after apply()", x);
        check.due("value(7)", x.value(7), 0);
        check.due("candidates(7)", x.candidates(7), 1);
        check.due("candidates(11)", x.candidates(11), 12);
        check.due("candidates(15)", x.candidates(15), 14);
        check.due("state(4)", x.state(4), 4);
        check.due("apply() again", x.apply(), false);
    }

    @Sentence(promise = 9, says = "What was found is done")
    void applyTakesJustWhatGoes() {
        HumanSteps x = Grids.made(2, LONG_REASON);
        int[] light = {0, 13, 24, 30, 44, 46, 55, 69, 77};
        int before = x.state(1);
        check.due("apply()", x.apply(), true);
        for (int cell : light) {
            check.due("candidates(" + cell + ")", x.candidates(cell), 255);
            check.due("value(" + cell + ")", x.value(cell), -1);
        }
        check.due("state(1)", x.state(1), before - 9);
        check.due("state(0)", x.state(0), 81);
    }

    @Sentence(promise = 9, says = "What was found is done")
    void applyThoughNoneGoes() {
        HumanSteps x = Grids.allButOne();
        x.find();
        check.due("apply() of the last cell", x.apply(), true);
        check.due("value(15)", x.value(15), 0);
        check.due("state(0)", x.state(0), 0);
        check.due("state(4)", x.state(4), 1);
    }

    @Sentence(promise = 9, says = "false when nothing is found")
    void applyNothing() {
        waysToFindNothing().forEach((way, run) -> {
            check.due("apply() " + way, Grids.made(0, run).apply(), false);
            dueNothingDone("apply() " + way, 0, run, HumanSteps::apply);
        });
    }

    // Promise 10.

    @Sentence(promise = 10, says = "-1, doing nothing, when most is below 0")
    void solveLessThanNone() {
        for (int most : new int[] {LEAST, LEAST + 1, -100, -2, -1}) {
            check.due("solve(" + most + ")", Grids.made(0, BUSY).solve(most), -1);
            dueNothingDone("solve(" + most + ")", x -> x.solve(most));
        }
    }

    @Sentence(promise = 10, says = "at most so many times: how many were done")
    void solveSoMany() {
        int[] most = {0, 1, 2, 3, 4, 100, GREATEST - 1, GREATEST};
        int[] done = {0, 1, 2, 3, 3, 3, 3, 3};
        for (int i = 0; i < most.length; i++) {
            HumanSteps x = Grids.made(0, BUSY);
            check.due("solve(" + most[i] + ")", x.solve(most[i]), done[i]);
            check.due("state(4) after solve(" + most[i] + ")", x.state(4), 3 + done[i]);
        }
    }

    /** Zero times: nothing is done, and what was found is gone all the same. */
    @Sentence(promise = 10, says = "(nothing is found then)")
    void solveLeavesNothingFound() {
        for (int most : new int[] {0, 1, 2, 3, 4, GREATEST}) {
            HumanSteps x = Grids.made(0, BUSY);
            x.solve(most);
            dueNothingFound("after solve(" + most + ")", x);
            check.due("apply() after solve(" + most + ")", x.apply(), false);
        }
        String want = Grids.exam(0, BUSY, x -> x.enable(0, false), x -> x.enable(0, true));
        check.due("all after solve(0)", Grids.exam(0, BUSY, x -> x.solve(0)), want);
    }

    @Sentence(promise = 10, says = "As long as a step is found it is done")
    void solveNone() {
        for (int kind = 0; kind < 3; kind++) {
            check.due("solve(5) of a new grid", new HumanSteps(kind).solve(5), 0);
            dueNothingDone("solve(5) of a new grid", kind, x -> { }, x -> x.solve(5));
        }
        Grids.Run full = x -> {
            int[] answer = {0, 1, 2, 3, 2, 3, 0, 1, 1, 0, 3, 2, 3, 2, 1, 0};
            for (int cell = 0; cell < 16; cell++) {
                x.set(cell, answer[cell]);
            }
        };
        Grids.Run broken = x -> {
            LAST_FOUND.on(x);
            Grids.leave(x, 15);
        };
        Grids.Run off = x -> {
            LAST_FOUND.on(x);
            Grids.switchAll(x, false);
        };
        for (Grids.Run run : new Grids.Run[] {full, broken, off}) {
            check.due("solve(5) with no step", Grids.made(0, run).solve(5), 0);
            dueNothingDone("solve(5) with no step", 0, run, x -> x.solve(5));
        }
    }

    @Sentence(promise = 10, says = "As long as a step is found it is done")
    void solveUntilItBreaks() {
        HumanSteps x = Grids.made(0, BREAKS);
        check.due("solve(100)", x.solve(100), 1);
        check.due("state(2)", x.state(2), 1);
        check.due("solve(100) again", x.solve(100), 0);
    }

    @Sentence(promise = 10, says = "As long as a step is found it is done")
    void solveToTheEnd() {
        HumanSteps x = Grids.made(2, PUZZLE);
        check.due("solve(50)", x.solve(50), 50);
        check.due("state(0)", x.state(0), 1);
        check.due("solve(50)", x.solve(50), 1);
        check.due("state(0)", x.state(0), 0);
        check.due("solve(50)", x.solve(50), 0);
        check.due("done(0)", x.done(0), 51);
    }

    // Promise 11.

    @Sentence(promise = 11, says = "-1, doing nothing, when none was done")
    void undoNone() {
        for (int kind = 0; kind < 3; kind++) {
            check.due("undo() of a new grid", new HumanSteps(kind).undo(), -1);
            dueNothingDone("undo() of a new grid", kind, x -> { }, HumanSteps::undo);
        }
        check.due("undo() with a step found, none done", Grids.made(0, LAST_FOUND).undo(), -1);
        dueNothingDone("undo() with a step found, none done", 0, LAST_FOUND, HumanSteps::undo);
    }

    @Sentence(promise = 11, says = "since set() or take() was true")
    void undoNotBeyondAChange() {
        Grids.Run set = x -> {
            BUSY.on(x);
            x.set(15, 3);
            x.find();
        };
        Grids.Run take = x -> {
            BUSY.on(x);
            x.take(15, 3);
            x.find();
        };
        for (Grids.Run change : new Grids.Run[] {set, take}) {
            HumanSteps x = Grids.made(0, change);
            check.due("undo() after a change", x.undo(), -1);
            check.due("state(4) after a change", x.state(4), 3);
            check.due("value(5) after a change", x.value(5), 3);
            dueNothingDone("undo() after a change", 0, change, HumanSteps::undo);
            x.apply();
            check.due("undo() of a step since", x.undo(), 0);
            check.due("undo() of one before", x.undo(), -1);
            check.due("state(4)", x.state(4), 3);
        }
    }

    @Sentence(promise = 11, says = "since set() or take() was true")
    void undoBeyondWhatWasRefused() {
        HumanSteps x = Grids.made(0, BUSY);
        check.due("set(0, 0)", x.set(0, 0), false);
        check.due("set(2, 0)", x.set(2, 0), false);
        check.due("take(0, 0)", x.take(0, 0), false);
        check.due("take(2, 0)", x.take(2, 0), false);
        check.dueThrow("set(16, 0)", NO_SUCH_PLACE, () -> x.set(16, 0));
        check.dueThrow("take(15, 4)", NO_SUCH_SYMBOL, () -> x.take(15, 4));
        check.due("solve(-1)", x.solve(-1), -1);
        check.due("enable(3, false)", x.enable(3, false), true);
        for (int cell : new int[] {4, 1, 5}) {
            check.due("value(" + cell + ") before undo()", x.value(cell) >= 0, true);
            check.due("undo()", x.undo(), 0);
            check.due("value(" + cell + ") after undo()", x.value(cell), -1);
        }
        check.due("undo() once more", x.undo(), -1);
    }

    @Sentence(promise = 11, says = "or all of these are undone")
    void undoAll() {
        Grids.Run allUndone = x -> {
            BUSY.on(x);
            x.undo();
            x.undo();
            x.undo();
            x.find();
        };
        check.due("undo() with all undone", Grids.made(0, allUndone).undo(), -1);
        dueNothingDone("undo() with all undone", 0, allUndone, HumanSteps::undo);
        HumanSteps x = Grids.made(0, allUndone);
        check.due("apply() of the first step again", x.apply(), true);
        check.due("undo() of it", x.undo(), 0);
        check.due("undo() with all undone again", x.undo(), -1);
    }

    @Sentence(promise = 11, says = "The latest step that was done is undone (all is as it was before it): its number")
    void undoEachStep() {
        int[] steps = {0, 0, 0, 0, 0, 1};
        for (int done = 1; done <= 6; done++) {
            int most = done;
            HumanSteps x = Grids.made(0, LAST_FOUND, y -> y.solve(most));
            check.due("undo() of step " + done, x.undo(), steps[done - 1]);
            check.due("all after undo() of step " + done,
                Grids.exam(0, LAST_FOUND, y -> y.solve(most), HumanSteps::undo),
                Grids.exam(0, LAST_FOUND, y -> y.solve(most - 1)));
        }
    }

    @Sentence(promise = 11, says = "(all is as it was before it)")
    void undoWhatTakes() {
        check.due("undo() of step 17", Grids.made(2, LONG_REASON, HumanSteps::apply).undo(), 17);
        check.due("all after undo() of step 17",
            Grids.exam(2, LONG_REASON, HumanSteps::apply, HumanSteps::undo),
            Grids.exam(2, LONG_REASON, x -> x.solve(0)));
    }

    @Sentence(promise = 11, says = "(all is as it was before it)")
    void undoWhatBroke() {
        check.due("undo()", Grids.made(0, BREAKS, x -> x.solve(100)).undo(), 0);
        check.due("all after undo() of the step that broke it",
            Grids.exam(0, BREAKS, x -> x.solve(100), HumanSteps::undo), Grids.exam(0, BREAKS));
    }

    @Sentence(promise = 11, says = "(all is as it was before it)")
    void undoTheLastCell() {
        HumanSteps x = Grids.allButOne();
        x.solve(1);
        check.due("undo() of the step that filled the grid", x.undo(), 0);
        check.due("value(15)", x.value(15), -1);
        check.due("candidates(15)", x.candidates(15), 1);
        check.due("state(0)", x.state(0), 1);
        check.due("find()", x.find(), 0);
    }

    @Sentence(promise = 11, says = "(all is as it was before it)")
    void undoAllTheWay() {
        HumanSteps x = Grids.made(2, PUZZLE, y -> y.solve(100));
        for (int left = 50; left >= 0; left--) {
            check.due("undo()", x.undo(), 0);
            check.due("state(4)", x.state(4), left);
        }
        check.due("undo() once more", x.undo(), -1);
        check.due("the cells", Grids.cells(x), Grids.cells(Grids.made(2, PUZZLE)));
        check.due("solve(100) again", x.solve(100), 51);
        check.due("undo() again", x.undo(), 0);
    }

    @Sentence(promise = 11, says = "and what was found is gone")
    void undoEndsWhatIsFound() {
        HumanSteps x = Grids.made(0, BUSY);
        check.due("found(3) before undo()", x.found(3), 7);
        check.due("undo()", x.undo(), 0);
        dueNothingFound("after undo()", x);
        check.due("apply() after undo()", x.apply(), false);
        check.due("find() after undo()", x.find(), 0);
        check.due("found(3) after undo() and find()", x.found(3), 4);
    }

    // Promise 12.

    @Sentence(promise = 12, says = "How often a step was done")
    void doneOfEachStep() {
        HumanSteps x = new HumanSteps(0);
        for (int step = 0; step < 19; step++) {
            check.due("done(" + step + ") of a new grid", x.done(step), 0);
        }
        LAST_FOUND.on(x);
        check.due("done(0) when only found", x.done(0), 0);
        x.solve(100);
        for (int step = 0; step < 19; step++) {
            check.due("done(" + step + ")", x.done(step), step == 0 ? 5 : step == 1 ? 1 : 0);
        }
        HumanSteps last = Grids.made(0, y -> {
            Grids.switchAll(y, false);
            y.enable(18, true);
            Grids.leave(y, 0, 0, 1);
            Grids.leave(y, 1, 0, 1);
            Grids.leave(y, 8, 0, 1);
        });
        check.due("solve(100)", last.solve(100), 1);
        check.due("done(18)", last.done(18), 1);
        check.due("done(17)", last.done(17), 0);
    }

    @Sentence(promise = 12, says = "(undone ones not counted)")
    void doneAfterUndo() {
        HumanSteps x = Grids.made(0, LAST_FOUND, y -> y.solve(100));
        int[] often = {5, 4, 3, 2, 1, 0};
        for (int count : often) {
            x.undo();
            check.due("done(0) after undo()", x.done(0), count);
            check.due("done(1) after undo()", x.done(1), 0);
        }
        x.undo();
        check.due("done(0) after undo() that was -1", x.done(0), 0);
    }

    @Sentence(promise = 12, says = "ArrayIndexOutOfBoundsException: there is no such step.")
    void doneOfNoSuchStep() {
        for (int step : NO_STEPS) {
            dueThrowDoingNothing("done(" + step + ")", NO_SUCH_PLACE, x -> x.done(step));
        }
    }
}
