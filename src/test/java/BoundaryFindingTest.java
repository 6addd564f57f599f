/** The boundary cases of what is found and of what is told of it: find, found, reason, goes. */
public final class BoundaryFindingTest extends Boundary {
    private static final int[] BESIDE_FOUND = {LEAST, LEAST + 1, -5, -1, 5, 6, 19, 32, GREATEST - 1, GREATEST};

    public static void main(String[] args) {
        new BoundaryFindingTest().runAll(5, 8);
    }

    // Before the promises.

    @Sentence(promise = 0, says = "BROKEN: some cell has no candidate")
    void brokenCells() {
        for (int kind = 0; kind < 3; kind++) {
            for (int cell = 0; cell < SIZES[kind] * SIZES[kind]; cell++) {
                HumanSteps x = new HumanSteps(kind);
                for (int symbol = 0; symbol < SIZES[kind]; symbol++) {
                    check.due("state(2) with candidates in cell " + cell, x.state(2), 0);
                    x.take(cell, symbol);
                }
                check.due("state(2) with none in cell " + cell + " of kind " + kind, x.state(2), 1);
                check.due("find() with none in cell " + cell + " of kind " + kind, x.find(), -2);
            }
        }
    }

    @Sentence(promise = 0, says = "or some symbol no place in some house")
    void brokenHouses() {
        for (int kind = 0; kind < 3; kind++) {
            for (int house = 0; house < 3 * SIZES[kind]; house++) {
                for (int symbol = 0; symbol < SIZES[kind]; symbol++) {
                    dueBrokenHouse(kind, house, symbol);
                }
            }
        }
    }

    private void dueBrokenHouse(int kind, int house, int symbol) {
        HumanSteps x = new HumanSteps(kind);
        String where = " " + symbol + " in house " + house + " of kind " + kind;
        for (int place = 0; place < SIZES[kind]; place++) {
            check.due("state(2) with a place for" + where, x.state(2), 0);
            x.take(cellOf(kind, house, place), symbol);
        }
        check.due("state(2) without a place for" + where, x.state(2), 1);
        check.due("find() without a place for" + where, x.find(), -2);
    }

    /** Set cells hold their candidate and their symbol's place: a full grid is whole. */
    @Sentence(promise = 0, says = "BROKEN: some cell has no candidate, or some symbol no place in some house.")
    void fullGridIsWhole() {
        HumanSteps x = Grids.allButOne();
        x.set(15, 0);
        check.due("state(2) of a full grid", x.state(2), 0);
        check.due("find() of a full grid", x.find(), -1);
    }

    // Promise 5.

    @Sentence(promise = 5, says = "The first step that is switched on, by its number, that has a place, is found")
    void firstOfAllSteps() {
        HumanSteps x = new HumanSteps(0);
        Grids.leave(x, 0, 0, 1);
        Grids.leave(x, 1, 0, 1);
        Grids.leave(x, 15, 3);
        int[] withAPlace = {0, 4, 5, 6, 9, 10, 17};
        for (int step : withAPlace) {
            check.due("find()", x.find(), step);
            check.due("found(0)", x.found(0), step);
            x.enable(step, false);
        }
        check.due("find() with all of these off", x.find(), -1);
        for (int i = withAPlace.length - 1; i >= 0; i--) {
            x.enable(withAPlace[i], true);
            check.due("find() with step " + withAPlace[i] + " on again", x.find(), withAPlace[i]);
        }
    }

    @Sentence(promise = 5, says = "-1 when there is none")
    void findNone() {
        for (int kind = 0; kind < 3; kind++) {
            HumanSteps x = new HumanSteps(kind);
            check.due("find() of a new grid of kind " + kind, x.find(), -1);
            dueNothingFound("after find() of a new grid", x);
            x.enable(18, true);
            check.due("find() with all steps on", x.find(), -1);
        }
        HumanSteps off = Grids.made(0, LAST_FOUND, x -> Grids.switchAll(x, false));
        check.due("find() with all steps off", off.find(), -1);
        dueNothingFound("after find() with all steps off", off);
        HumanSteps full = Grids.allButOne();
        full.set(15, 0);
        check.due("find() of a full grid", full.find(), -1);
        dueNothingFound("after find() of a full grid", full);
    }

    @Sentence(promise = 5, says = "-2 when the grid is BROKEN (then nothing is found)")
    void findBroken() {
        Grids.Run broken = x -> Grids.leave(x, 15);
        HumanSteps x = Grids.made(0, LAST_FOUND, broken);
        check.due("find() though a step has a place", x.find(), -2);
        dueNothingFound("after find() that was -2", x);
        check.due("apply() after find() that was -2", x.apply(), false);
        dueNothingDone("find() that was -2", 0, broken, HumanSteps::find);
        x = Grids.made(0, broken, y -> Grids.switchAll(y, false));
        check.due("find() with all steps off", x.find(), -2);
    }

    @Sentence(promise = 5, says = "-2 when the grid is BROKEN (then nothing is found)")
    void findBrokenByAStep() {
        HumanSteps x = new HumanSteps(0);
        Grids.leave(x, 0, 0);
        Grids.leave(x, 1, 0);
        check.due("find()", x.find(), 0);
        x.apply();
        check.due("find() after the step that broke it", x.find(), -2);
        x.undo();
        check.due("find() once that is undone", x.find(), 0);
    }

    @Sentence(promise = 5, says = "is found: its number")
    void findAgain() {
        dueNothingDone("find() again", HumanSteps::find);
        dueNothingDone("find() that was -1", 0, x -> { }, HumanSteps::find);
        check.due("find() again", Grids.made(0, BUSY).find(), 0);
    }

    // Promise 6.

    private void dueFound(String what, HumanSteps x, int... want) {
        for (int k = 0; k < 5; k++) {
            check.due("found(" + k + ") of " + what, x.found(k), want[k]);
        }
    }

    @Sentence(promise = 6, says = "3 the cell that is set (-1: none), 4 its symbol (-1)")
    void foundSetsOrTakes() {
        HumanSteps x = Grids.made(0, y -> Grids.leave(y, 0, 0), HumanSteps::find);
        dueFound("the first cell and symbol", x, 0, 1, 7, 0, 0);
        x = Grids.made(2, y -> Grids.leave(y, 80, 8), HumanSteps::find);
        dueFound("the last cell and symbol", x, 0, 1, 20, 80, 8);
        x = Grids.made(2, y -> Grids.leaveInRow(y, 0, 2, 3, 4, 5), HumanSteps::find);
        dueFound("a step that takes", x, 5, 3, 6, -1, -1);
        dueFound("a step that takes by a long reason", Grids.made(2, LONG_REASON), 17, 19, 9, -1, -1);
    }

    /** Of a cell and a symbol found before nothing is left. */
    @Sentence(promise = 6, says = "3 the cell that is set (-1: none), 4 its symbol (-1)")
    void foundTakesAfterOneThatSets() {
        HumanSteps x = new HumanSteps(2);
        Grids.leave(x, 80, 8);
        Grids.leaveInRow(x, 0, 2, 3, 4, 5);
        check.due("find()", x.find(), 0);
        dueFound("a step that sets", x, 0, 1, 20, 80, 8);
        x.enable(0, false);
        check.due("find()", x.find(), 5);
        dueFound("a step that takes in its stead", x, 5, 3, 6, -1, -1);
        x.enable(0, true);
        x.find();
        x.apply();
        check.due("find()", x.find(), 5);
        dueFound("a step that takes after it", x, 5, 3, 6, -1, -1);
    }

    @Sentence(promise = 6, says = "2 how many candidates would go")
    void foundThatNoneGoes() {
        HumanSteps x = Grids.allButOne();
        check.due("find()", x.find(), 0);
        dueFound("a step by which none goes", x, 0, 1, 0, 15, 0);
        check.due("apply()", x.apply(), true);
        check.due("value(15)", x.value(15), 0);
    }

    @Sentence(promise = 6, says = "-1 for others")
    void foundOfOthers() {
        for (int k : BESIDE_FOUND) {
            check.due("found(" + k + ")", Grids.made(0, BUSY).found(k), -1);
            check.due("found(" + k + ") by a long reason", Grids.made(2, LONG_REASON).found(k), -1);
            dueNothingDone("found(" + k + ")", x -> x.found(k));
        }
    }

    @Sentence(promise = 6, says = "and when nothing is found")
    void foundOfNothing() {
        waysToFindNothing().forEach((way, run) -> {
            HumanSteps x = Grids.made(0, run);
            for (int k = -1; k <= 5; k++) {
                check.due("found(" + k + ") " + way, x.found(k), -1);
            }
        });
    }

    // Promise 7.

    @Sentence(promise = 7, says = "Cell k of the REASON")
    void reasonOfMany() {
        HumanSteps x = Grids.made(2, LONG_REASON);
        check.due("find()", x.found(0), 17);
        check.due("the reason", Grids.reason(x), "0 7 11 13 23 24 30 33 37 44 46 50 55 57 62 67 69 72 77");
        check.due("reason(18)", x.reason(18), 77);
        check.due("reason(19)", x.reason(19), -1);
    }

    @Sentence(promise = 7, says = "-1 when there is none")
    void reasonBeside() {
        for (int k : new int[] {LEAST, LEAST + 1, -1, 1, 2, 15, 16, 32, GREATEST - 1, GREATEST}) {
            check.due("reason(" + k + ") of one cell", Grids.made(0, BUSY).reason(k), -1);
            dueNothingDone("reason(" + k + ")", x -> x.reason(k));
        }
        for (int k : new int[] {LEAST, -1, 19, 80, 81, 82, GREATEST}) {
            check.due("reason(" + k + ") of many cells", Grids.made(2, LONG_REASON).reason(k), -1);
        }
    }

    @Sentence(promise = 7, says = "-1 when there is none")
    void reasonOfNothing() {
        waysToFindNothing().forEach((way, run) -> {
            HumanSteps x = Grids.made(0, run);
            for (int k = -1; k <= 16; k++) {
                check.due("reason(" + k + ") " + way, x.reason(k), -1);
            }
        });
    }

    /** Of a longer reason found before nothing is left. */
    @Sentence(promise = 7, says = "-1 when there is none")
    void reasonAfterALongerOne() {
        HumanSteps x = Grids.made(2, LONG_REASON, y -> Grids.leave(y, 40, 4));
        x.enable(0, true);
        check.due("find()", x.find(), 0);
        check.due("the reason", Grids.reason(x), "40");
        for (int k = 1; k <= 20; k++) {
            check.due("reason(" + k + ")", x.reason(k), -1);
        }
    }

    // Promise 8.

    @Sentence(promise = 8, says = "Candidate k that would go, n cell + symbol, by rising numbers")
    void goesAtTheEnds() {
        HumanSteps x = new HumanSteps(2);
        Grids.leave(x, 1, 0, 8);
        Grids.leave(x, 2, 0, 8);
        check.due("find()", x.find(), 6);
        check.due("what goes", Grids.goes(x), "0 8 27 35 36 44 45 53 54 62 63 71 72 80");
        x = new HumanSteps(2);
        Grids.leave(x, 78, 0, 8);
        Grids.leave(x, 79, 0, 8);
        check.due("find()", x.find(), 6);
        check.due("what goes", Grids.goes(x), "648 656 657 665 666 674 675 683 684 692 693 701 720 728");
    }

    @Sentence(promise = 8, says = "(of a cell that is set all that go by it)")
    void goesByASetCell() {
        HumanSteps x = Grids.made(2, y -> Grids.leaveInRow(y, 8, 8, 8), HumanSteps::find);
        check.due("found(0)", x.found(0), 2);
        check.due("what goes", Grids.goes(x),
            "80 161 242 323 404 485 548 557 566 629 638 647 720 721 722 723 724 725 726 727");
        x = Grids.made(0, y -> Grids.leave(y, 0, 0), HumanSteps::find);
        check.due("what goes by the first cell", Grids.goes(x), "4 8 12 16 20 32 48");
    }

    @Sentence(promise = 8, says = "-1 when there is none")
    void goesBeside() {
        check.due("goes(0)", Grids.made(0, BUSY).goes(0), 44);
        check.due("goes(1)", Grids.made(0, BUSY).goes(1), 60);
        for (int k : new int[] {LEAST, LEAST + 1, -1, 2, 3, 15, 63, 64, GREATEST - 1, GREATEST}) {
            check.due("goes(" + k + ") of two", Grids.made(0, BUSY).goes(k), -1);
            dueNothingDone("goes(" + k + ")", x -> x.goes(k));
        }
        for (int k : new int[] {LEAST, -1, 9, 10, 80, 81, 728, 729, GREATEST}) {
            check.due("goes(" + k + ") of nine", Grids.made(2, LONG_REASON).goes(k), -1);
        }
        HumanSteps none = Grids.allButOne();
        check.due("find() by which none goes", none.find(), 0);
        check.due("goes(0) when none goes", none.goes(0), -1);
    }

    @Sentence(promise = 8, says = "-1 when there is none")
    void goesOfNothing() {
        waysToFindNothing().forEach((way, run) -> {
            HumanSteps x = Grids.made(0, run);
            for (int k = -1; k <= 64; k++) {
                check.due("goes(" + k + ") " + way, x.goes(k), -1);
            }
        });
    }

    /** What would have gone by a step found before is no part of what goes now. */
    @Sentence(promise = 8, says = "-1 when there is none")
    void goesAfterMore() {
        HumanSteps x = Grids.made(0, LAST_FOUND, y -> y.solve(5), HumanSteps::find);
        check.due("found(0)", x.found(0), 1);
        check.due("what goes", Grids.goes(x), "43");
    }
}
