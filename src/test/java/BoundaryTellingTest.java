/** The boundary cases of what tells how a grid stands: candidates, value, state, words. */
public final class BoundaryTellingTest extends Boundary {
    public static void main(String[] args) {
        new BoundaryTellingTest().runAll(13, 16);
    }

    // Promise 13.

    @Sentence(promise = 13, says = "A cell's candidates as bits.")
    void candidatesFromAllToNone() {
        for (int kind = 0; kind < 3; kind++) {
            int n = SIZES[kind];
            for (int cell : new int[] {0, n * n - 1}) {
                HumanSteps x = new HumanSteps(kind);
                int left = (1 << n) - 1;
                check.due("candidates(" + cell + ") at first", x.candidates(cell), left);
                for (int symbol = 0; symbol < n; symbol++) {
                    x.take(cell, symbol);
                    left -= 1 << symbol;
                    check.due("candidates(" + cell + ") without 0 .. " + symbol, x.candidates(cell), left);
                }
            }
        }
    }

    @Sentence(promise = 13, says = "A cell's candidates as bits.")
    void candidatesOfASetCell() {
        for (int kind = 0; kind < 3; kind++) {
            for (int symbol = 0; symbol < SIZES[kind]; symbol++) {
                HumanSteps x = new HumanSteps(kind);
                x.set(0, symbol);
                check.due("candidates(0) set to " + symbol, x.candidates(0), 1 << symbol);
            }
        }
    }

    @Sentence(promise = 13, says = "ArrayIndexOutOfBoundsException: there is no such cell.")
    void candidatesOfNoSuchCell() {
        for (int kind = 0; kind < 3; kind++) {
            for (int cell : noCells(SIZES[kind])) {
                HumanSteps x = new HumanSteps(kind);
                check.dueThrow("candidates(" + cell + ") of kind " + kind, NO_SUCH_PLACE, () -> x.candidates(cell));
            }
        }
        for (int cell : noCells(4)) {
            dueThrowDoingNothing("candidates(" + cell + ")", NO_SUCH_PLACE, x -> x.candidates(cell));
        }
    }

    // Promise 14.

    @Sentence(promise = 14, says = "What a cell is set to")
    void valueOfASetCell() {
        for (int kind = 0; kind < 3; kind++) {
            for (int symbol = 0; symbol < SIZES[kind]; symbol++) {
                HumanSteps x = new HumanSteps(kind);
                int last = SIZES[kind] * SIZES[kind] - 1;
                x.set(last, symbol);
                check.due("value(last) set to " + symbol, x.value(last), symbol);
                check.due("value(0), open", x.value(0), -1);
            }
        }
    }

    /** An open cell with one candidate, or with none, is not set to anything. */
    @Sentence(promise = 14, says = "-1 when it is open")
    void valueOfAnOpenCell() {
        HumanSteps x = new HumanSteps(0);
        check.due("value(0) at first", x.value(0), -1);
        Grids.leave(x, 0, 0);
        check.due("value(0) with one candidate", x.value(0), -1);
        x.find();
        check.due("value(0) when it is found", x.value(0), -1);
        x.apply();
        check.due("value(0) when that is done", x.value(0), 0);
        x.undo();
        check.due("value(0) when that is undone", x.value(0), -1);
        x.take(0, 0);
        check.due("value(0) without candidates", x.value(0), -1);
    }

    @Sentence(promise = 14, says = "ArrayIndexOutOfBoundsException: there is no such cell.")
    void valueOfNoSuchCell() {
        for (int kind = 0; kind < 3; kind++) {
            for (int cell : noCells(SIZES[kind])) {
                HumanSteps x = new HumanSteps(kind);
                check.dueThrow("value(" + cell + ") of kind " + kind, NO_SUCH_PLACE, () -> x.value(cell));
            }
        }
        for (int cell : noCells(4)) {
            dueThrowDoingNothing("value(" + cell + ")", NO_SUCH_PLACE, x -> x.value(cell));
        }
    }

    // Promise 15.

    private void dueState(String when, HumanSteps x, int... want) {
        for (int what = 0; what < 5; what++) {
            check.due("state(" + what + ") " + when, x.state(what), want[what]);
        }
    }

    @Sentence(promise = 15, says = "0 how many cells are open, 1 how many candidates all open cells have")
    void stateFromNewToFull() {
        for (int kind = 0; kind < 3; kind++) {
            int n = SIZES[kind];
            dueState("of a new grid", new HumanSteps(kind), n * n, n * n * n, 0, n, 0);
        }
        HumanSteps x = Grids.allButOne();
        dueState("with one cell open", x, 1, 1, 0, 4, 0);
        x.solve(1);
        dueState("of a full grid", x, 0, 0, 0, 4, 1);
    }

    /** A cell without candidates is open still; a set one has a candidate that does not count. */
    @Sentence(promise = 15, says = "1 how many candidates all open cells have")
    void stateOfEmptyCells() {
        HumanSteps x = Grids.made(0, y -> Grids.leave(y, 15));
        dueState("with an empty cell", x, 16, 60, 1, 4, 0);
        x.set(0, 0);
        dueState("with a set cell too", x, 15, 60 - 4 - 7, 1, 4, 0);
    }

    @Sentence(promise = 15, says = "2 whether it is BROKEN (1, 0)")
    void stateOfABrokenGrid() {
        HumanSteps x = Grids.made(0, y -> Grids.leaveInRow(y, 3, 3, 3));
        check.due("state(2) with one place", x.state(2), 0);
        x.take(15, 3);
        check.due("state(2) with no place", x.state(2), 1);
        x = Grids.made(0, y -> Grids.leave(y, 0, 0), y -> Grids.leave(y, 1, 0));
        check.due("state(2) before the step that breaks it", x.state(2), 0);
        x.solve(1);
        check.due("state(2) after it", x.state(2), 1);
        x.undo();
        check.due("state(2) when it is undone", x.state(2), 0);
    }

    @Sentence(promise = 15, says = "4 how many steps were done")
    void stateOfSteps() {
        HumanSteps x = Grids.made(0, BUSY);
        check.due("state(4)", x.state(4), 3);
        x.apply();
        check.due("state(4) after apply()", x.state(4), 4);
        for (int left = 3; left >= 0; left--) {
            x.undo();
            check.due("state(4) after undo()", x.state(4), left);
        }
        x.undo();
        check.due("state(4) after undo() that was -1", x.state(4), 0);
    }

    @Sentence(promise = 15, says = "-1 for others")
    void stateOfOthers() {
        for (int what : new int[] {LEAST, LEAST + 1, -5, -1, 5, 6, 32, GREATEST - 1, GREATEST}) {
            for (int kind = 0; kind < 3; kind++) {
                check.due("state(" + what + ") of kind " + kind, new HumanSteps(kind).state(what), -1);
            }
            check.due("state(" + what + ")", Grids.made(0, BUSY).state(what), -1);
            dueNothingDone("state(" + what + ")", x -> x.state(what));
        }
    }

    // Promise 16.

    @Sentence(promise = 16, says = "then of each cell of the REASON a blank, r, its row + 1, c, its column + 1")
    void wordsOfTheCorners() {
        for (int kind = 0; kind < 3; kind++) {
            int n = SIZES[kind];
            int[] corners = {0, n - 1, n * n - n, n * n - 1};
            String[] names = {"r1c1", "r1c" + n, "r" + n + "c1", "r" + n + "c" + n};
            for (int i = 0; i < 4; i++) {
                int corner = corners[i];
                HumanSteps x = Grids.made(kind, y -> Grids.leave(y, corner, 1), HumanSteps::find);
                check.due("words(0, ..)", Grids.words(x, 0), "last " + names[i]);
                check.due("words(1, ..)", Grids.words(x, 1), "letzte " + names[i]);
            }
        }
    }

    @Sentence(promise = 16, says = "Byte i of what is found in words")
    void wordsOfALongReason() {
        String cells = " r1c1 r1c8 r2c3 r2c5 r3c6 r3c7 r4c4 r4c7 r5c2 r5c9"
            + " r6c2 r6c6 r7c2 r7c4 r7c9 r8c5 r8c7 r9c1 r9c6";
        HumanSteps x = Grids.made(2, LONG_REASON);
        check.due("words(0, ..)", Grids.words(x, 0), "colours" + cells);
        check.due("words(1, ..)", Grids.words(x, 1), "Farben" + cells);
        check.due("words(0, 101), the last one", x.words(0, 101), '6');
        check.due("words(0, 102)", x.words(0, 102), -1);
        check.due("words(1, 100), the last one", x.words(1, 100), '6');
        check.due("words(1, 101)", x.words(1, 101), -1);
    }

    @Sentence(promise = 16, says = "-1 when there is none")
    void wordsBeside() {
        check.due("words(0, ..)", Grids.words(Grids.made(0, BUSY), 0), "last r2c4");
        check.due("words(1, ..)", Grids.words(Grids.made(0, BUSY), 1), "letzte r2c4");
        int[] beside = {LEAST, LEAST + 1, -9, -5, -1, 11, 12, 13, 16, 256, GREATEST - 5, GREATEST - 1, GREATEST};
        for (int i : beside) {
            for (int language = 0; language < 2; language++) {
                int told = language;
                check.due("words(" + language + ", " + i + ")", Grids.made(0, BUSY).words(language, i), -1);
                dueNothingDone("words(" + language + ", " + i + ")", x -> x.words(told, i));
            }
        }
        check.due("words(0, 8)", Grids.made(0, BUSY).words(0, 8), '4');
        check.due("words(0, 9)", Grids.made(0, BUSY).words(0, 9), -1);
        check.due("words(1, 10)", Grids.made(0, BUSY).words(1, 10), '4');
    }

    @Sentence(promise = 16, says = "nothing is found")
    void wordsOfNothing() {
        waysToFindNothing().forEach((way, run) -> {
            HumanSteps x = Grids.made(0, run);
            for (int language = -1; language < 3; language++) {
                for (int i = -1; i < 20; i++) {
                    check.due("words(" + language + ", " + i + ") " + way, x.words(language, i), -1);
                }
            }
        });
    }

    @Sentence(promise = 16, says = "or for another language")
    void wordsOfAnotherLanguage() {
        for (int language : new int[] {LEAST, LEAST + 1, -2, -1, 2, 3, 32, GREATEST - 1, GREATEST}) {
            HumanSteps x = Grids.made(0, BUSY);
            for (int i = -1; i < 20; i++) {
                check.due("words(" + language + ", " + i + ")", x.words(language, i), -1);
            }
            dueNothingDone("words(" + language + ", 0)", y -> y.words(language, 0));
        }
    }

    /** A shorter text found after a longer one ends where it ends. */
    @Sentence(promise = 16, says = "-1 when there is none")
    void wordsAfterALongerText() {
        HumanSteps x = Grids.made(2, LONG_REASON, y -> Grids.leave(y, 40, 4));
        x.enable(0, true);
        x.find();
        check.due("words(0, ..)", Grids.words(x, 0), "last r5c5");
        for (int i = 9; i < 110; i++) {
            check.due("words(0, " + i + ")", x.words(0, i), -1);
        }
    }

    /** Names of more than one word, at their own blank and where the cells begin. */
    @Sentence(promise = 16, says = "the step's name (below)")
    void wordsOfLongNames() {
        HumanSteps x = Grids.made(0, y -> {
            Grids.switchAll(y, false);
            y.enable(18, true);
            Grids.leave(y, 0, 0, 1);
            Grids.leave(y, 1, 0, 1);
            Grids.leave(y, 8, 0, 1);
        }, HumanSteps::find);
        check.due("words(0, ..)", Grids.words(x, 0), "only one answer r1c1 r1c2 r3c1 r3c2");
        check.due("words(1, ..)", Grids.words(x, 1), "nur eine Antwort r1c1 r1c2 r3c1 r3c2");
        x = Grids.made(0, y -> Grids.leaveInColumn(y, 3, 0, 0), HumanSteps::find);
        check.due("words(0, ..)", Grids.words(x, 0), "in column r1c4 r2c4 r3c4 r4c4");
        check.due("words(1, ..)", Grids.words(x, 1), "in der Spalte r1c4 r2c4 r3c4 r4c4");
    }
}
