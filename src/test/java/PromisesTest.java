/** Each promise of the document by itself: ordinary calls, the edges it names, wrong arguments. */
public final class PromisesTest {
    private static final int[] FAR = {Integer.MIN_VALUE, -1, 81, 1000, Integer.MAX_VALUE};

    private final Check check = new Check("PromisesTest");

    public static void main(String[] args) {
        PromisesTest test = new PromisesTest();
        test.promise1NewObject();
        test.promise1Houses();
        test.promise2Set();
        test.promise2Wrong();
        test.promise3Take();
        test.promise3Wrong();
        test.promise4Enable();
        test.promise5Find();
        test.promise5Broken();
        test.promise5BrokenAnywhere();
        test.promise6Found();
        test.promise7Reason();
        test.promise8Goes();
        test.promise9Apply();
        test.promise10Solve();
        test.promise10SolveNone();
        test.promise11Undo();
        test.promise11Forgets();
        test.promise11Switches();
        test.promise12Done();
        test.promise13Candidates();
        test.promise14Value();
        test.promise15State();
        test.promise16Words();
        test.promise16Names();
        test.check.end();
    }

    private static HumanSteps withLastFound() {
        HumanSteps x = new HumanSteps(0);
        x.set(0, 0);
        x.set(6, 2);
        x.set(9, 1);
        x.find();
        return x;
    }

    private void dueSame(String call, HumanSteps x, String before) {
        check.due("the sight of all after " + call, Grids.sight(x), before);
    }

    private void dueNothingFound(String call, HumanSteps x) {
        check.due("found(0) after " + call, x.found(0), -1);
        check.due("found(1) after " + call, x.found(1), -1);
        check.due("reason(0) after " + call, x.reason(0), -1);
        check.due("goes(0) after " + call, x.goes(0), -1);
        check.due("words(0, 0) after " + call, x.words(0, 0), -1);
    }

    private void promise1NewObject() {
        int[] kinds = {Integer.MIN_VALUE, -1, 0, 1, 2, 3, Integer.MAX_VALUE};
        int[] sizes = {4, 4, 4, 6, 9, 9, 9};
        for (int i = 0; i < kinds.length; i++) {
            HumanSteps x = new HumanSteps(kinds[i]);
            int n = sizes[i];
            check.due("state(3) of kind " + kinds[i], x.state(3), n);
            check.due("state(0)", x.state(0), n * n);
            check.due("state(1)", x.state(1), n * n * n);
            check.due("state(2)", x.state(2), 0);
            check.due("state(4)", x.state(4), 0);
            for (int cell = 0; cell < n * n; cell++) {
                check.due("candidates(" + cell + ")", x.candidates(cell), (1 << n) - 1);
                check.due("value(" + cell + ")", x.value(cell), -1);
            }
            dueNothingFound("nothing", x);
            check.due("find()", x.find(), -1);
            check.due("undo()", x.undo(), -1);
            check.due("apply()", x.apply(), false);
        }
    }

    /** The houses show in what a set cell takes: the symbol from all cells that it sees. */
    private void promise1Houses() {
        dueSeen(0, 5, " 0 1 4 6 7 9 13");
        dueSeen(0, 11, " 3 7 8 9 10 14 15");
        dueSeen(1, 9, " 3 4 5 6 7 8 10 11 15 21 27 33");
        dueSeen(1, 18, " 0 6 12 13 14 19 20 21 22 23 24 30");
        dueSeen(2, 0, " 1 2 3 4 5 6 7 8 9 10 11 18 19 20 27 36 45 54 63 72");
        dueSeen(2, 50, " 5 14 23 30 31 32 39 40 41 45 46 47 48 49 51 52 53 59 68 77");
    }

    private void dueSeen(int kind, int cell, String want) {
        HumanSteps x = new HumanSteps(kind);
        int n = x.state(3);
        x.set(cell, 1);
        StringBuilder seen = new StringBuilder();
        for (int other = 0; other < n * n; other++) {
            if (other != cell && (x.candidates(other) >> 1 & 1) == 0) {
                seen.append(' ').append(other);
            }
        }
        check.due("cells seen from " + cell + " of kind " + kind, seen.toString(), want);
    }

    private void promise2Set() {
        HumanSteps x = new HumanSteps(2);
        check.due("set(40, 8)", x.set(40, 8), true);
        check.due("value(40)", x.value(40), 8);
        check.due("candidates(40)", x.candidates(40), 256);
        check.due("candidates(36)", x.candidates(36), 255);
        check.due("candidates(0)", x.candidates(0), 511);
        check.due("state(1)", x.state(1), 80 * 9 - 20);
        String before = Grids.sight(x);
        check.due("set(40, 8) again", x.set(40, 8), false);
        check.due("set(40, 0) of a set cell", x.set(40, 0), false);
        check.due("set(36, 8) of no candidate", x.set(36, 8), false);
        dueSame("set() that was false", x, before);
        x.take(0, 3);
        check.due("set(0, 3) of a taken candidate", x.set(0, 3), false);

        x = withLastFound();
        before = Grids.sight(x);
        check.due("set(0, 0)", x.set(0, 0), false);
        check.due("set(5, 0)", x.set(5, 0), false);
        dueSame("set() that was false", x, before);
        check.due("set(15, 0)", x.set(15, 0), true);
        dueNothingFound("set() that was true", x);
        check.due("value(5), found but not done", x.value(5), -1);
        check.due("candidates(1), found but not done", x.candidates(1), 12);
        check.due("apply() after set()", x.apply(), false);
    }

    private void promise2Wrong() {
        HumanSteps x = withLastFound();
        String before = Grids.sight(x);
        for (int far : FAR) {
            check.dueThrow("set(" + far + ", 0)", ArrayIndexOutOfBoundsException.class, () -> x.set(far, 0));
            check.dueThrow("set(0, " + far + ")", IllegalArgumentException.class, () -> x.set(0, far));
            check.dueThrow("set(" + far + ", 9)", ArrayIndexOutOfBoundsException.class, () -> x.set(far, 9));
        }
        check.dueThrow("set(16, 0)", ArrayIndexOutOfBoundsException.class, () -> x.set(16, 0));
        check.dueThrow("set(15, 4)", IllegalArgumentException.class, () -> x.set(15, 4));
        check.dueThrow("set(0, -1) of a set cell", IllegalArgumentException.class, () -> x.set(0, -1));
        dueSame("wrong set()", x, before);
    }

    private void promise3Take() {
        HumanSteps x = new HumanSteps(1);
        check.due("take(35, 5)", x.take(35, 5), true);
        check.due("candidates(35)", x.candidates(35), 31);
        check.due("candidates(34)", x.candidates(34), 63);
        check.due("take(35, 5) again", x.take(35, 5), false);
        x.set(0, 2);
        check.due("take(0, 2) of a set cell", x.take(0, 2), false);
        check.due("take(0, 1) of a set cell", x.take(0, 1), false);
        check.due("take(1, 2) of no candidate", x.take(1, 2), false);
        check.due("value(35)", x.value(35), -1);

        x = withLastFound();
        String before = Grids.sight(x);
        check.due("take(6, 2)", x.take(6, 2), false);
        check.due("take(1, 0)", x.take(1, 0), false);
        dueSame("take() that was false", x, before);
        check.due("take(15, 0)", x.take(15, 0), true);
        dueNothingFound("take() that was true", x);

        x = new HumanSteps(0);
        Grids.leave(x, 3);
        check.due("candidates(3) with all taken", x.candidates(3), 0);
        check.due("set(3, 0) of an empty cell", x.set(3, 0), false);
        check.due("take(3, 0) of an empty cell", x.take(3, 0), false);
    }

    private void promise3Wrong() {
        HumanSteps x = withLastFound();
        String before = Grids.sight(x);
        for (int far : FAR) {
            check.dueThrow("take(" + far + ", 0)", ArrayIndexOutOfBoundsException.class, () -> x.take(far, 0));
            check.dueThrow("take(0, " + far + ")", IllegalArgumentException.class, () -> x.take(0, far));
            check.dueThrow("take(" + far + ", -1)", ArrayIndexOutOfBoundsException.class, () -> x.take(far, -1));
        }
        check.dueThrow("take(16, 0)", ArrayIndexOutOfBoundsException.class, () -> x.take(16, 0));
        check.dueThrow("take(15, 4)", IllegalArgumentException.class, () -> x.take(15, 4));
        dueSame("wrong take()", x, before);
    }

    private void promise4Enable() {
        HumanSteps x = withLastFound();
        String before = Grids.sight(x);
        for (int step = 0; step < 19; step++) {
            check.due("enable(" + step + ") as it is at first", x.enable(step, step != 18), false);
        }
        dueSame("enable() that was false", x, before);
        check.due("enable(7, false)", x.enable(7, false), true);
        dueNothingFound("enable() that was true", x);
        check.due("enable(7, false) again", x.enable(7, false), false);
        check.due("find()", x.find(), 0);
        check.due("enable(0, false)", x.enable(0, false), true);
        check.due("find() without step 0", x.find(), 1);
        check.due("enable(0, true)", x.enable(0, true), true);
        check.due("find() with step 0", x.find(), 0);
        before = Grids.sight(x);
        for (int step : new int[] {Integer.MIN_VALUE, -1, 19, Integer.MAX_VALUE}) {
            check.dueThrow("enable(" + step + ", true)", ArrayIndexOutOfBoundsException.class,
                () -> x.enable(step, true));
            check.dueThrow("enable(" + step + ", false)", ArrayIndexOutOfBoundsException.class,
                () -> x.enable(step, false));
        }
        dueSame("wrong enable()", x, before);
    }

    private void promise5Find() {
        HumanSteps x = withLastFound();
        String before = Grids.sight(x);
        check.due("find() again", x.find(), 0);
        dueSame("find() again", x, before);
        int[] first = new int[19];
        for (int step = 0; step < 19; step++) {
            first[step] = x.find();
            x.enable(Math.max(0, first[step]), false);
        }
        for (int step = 1; step < 19; step++) {
            check.due("a later step once one is off", first[step] > first[step - 1] || first[step] == -1, true);
        }
        Grids.switchAll(x, false);
        check.due("find() with all off", x.find(), -1);
        dueNothingFound("find() that was -1", x);
    }

    private void promise5Broken() {
        HumanSteps x = new HumanSteps(0);
        Grids.leave(x, 5);
        check.due("find() with a cell without candidates", x.find(), -2);
        dueNothingFound("find() that was -2", x);
        check.due("apply()", x.apply(), false);
        for (int house = 0; house < 3; house++) {
            x = new HumanSteps(0);
            int[][] cells = {{4, 5, 6, 7}, {2, 6, 10, 14}, {10, 11, 14, 15}};
            Grids.takeFrom(x, 1, cells[house][0], cells[house][1], cells[house][2]);
            check.due("state(2) with one place", x.state(2), 0);
            check.due("find() with one place", x.find() >= 0, true);
            Grids.takeFrom(x, 1, cells[house][3]);
            check.due("state(2) with no place", x.state(2), 1);
            check.due("find() with no place", x.find(), -2);
        }
        check.due("find() of a grid that is done", solved().find(), -1);
    }

    /** Every cell without candidates, and every symbol without a place in every row. */
    private void promise5BrokenAnywhere() {
        for (int cell = 0; cell < 36; cell++) {
            HumanSteps x = new HumanSteps(1);
            Grids.leave(x, cell);
            check.due("find() with cell " + cell + " empty", x.find(), -2);
        }
        for (int row = 0; row < 6; row++) {
            for (int symbol = 0; symbol < 6; symbol++) {
                HumanSteps x = new HumanSteps(1);
                Grids.leaveInRow(x, row, symbol);
                check.due("find() with no " + symbol + " in row " + row, x.find(), -2);
            }
        }
    }

    private static HumanSteps solved() {
        HumanSteps x = Grids.allButOne();
        x.set(15, 0);
        return x;
    }

    private void promise6Found() {
        HumanSteps x = withLastFound();
        int[] want = {0, 1, 4, 5, 3};
        for (int k = 0; k < want.length; k++) {
            check.due("found(" + k + ")", x.found(k), want[k]);
        }
        for (int k : new int[] {Integer.MIN_VALUE, -1, 5, Integer.MAX_VALUE}) {
            check.due("found(" + k + ")", x.found(k), -1);
        }
        x = new HumanSteps(2);
        Grids.leaveInRow(x, 0, 2, 3, 4, 5);
        dueNothingFound("take()", x);
        x.find();
        int[] taking = {5, 3, 6, -1, -1};
        for (int k = 0; k < taking.length; k++) {
            check.due("found(" + k + ") of a step that takes", x.found(k), taking[k]);
        }
    }

    private void promise7Reason() {
        HumanSteps x = new HumanSteps(1);
        Grids.takeFrom(x, 0, 3, 4, 5, 9, 11);
        check.due("find()", x.find(), 1);
        int[] box = {3, 4, 5, 9, 10, 11};
        for (int k = 0; k < box.length; k++) {
            check.due("reason(" + k + ")", x.reason(k), box[k]);
        }
        for (int k : new int[] {Integer.MIN_VALUE, -1, 6, 35, 36, Integer.MAX_VALUE}) {
            check.due("reason(" + k + ")", x.reason(k), -1);
        }
        x.apply();
        check.due("reason(0) when nothing is found", x.reason(0), -1);
    }

    private void promise8Goes() {
        HumanSteps x = new HumanSteps(0);
        Grids.leaveInRow(x, 2, 3, 1);
        check.due("find()", x.find(), 2);
        int[] goes = {7, 23, 36, 37, 38, 51, 55};
        for (int k = 0; k < goes.length; k++) {
            check.due("goes(" + k + ")", x.goes(k), goes[k]);
        }
        for (int k : new int[] {Integer.MIN_VALUE, -1, 7, 16, 64, Integer.MAX_VALUE}) {
            check.due("goes(" + k + ")", x.goes(k), -1);
        }
        x = Grids.allButOne();
        check.due("find()", x.find(), 0);
        check.due("goes(0) when none goes", x.goes(0), -1);
        check.due("found(2) when none goes", x.found(2), 0);
    }

    private void promise9Apply() {
        HumanSteps x = withLastFound();
        check.due("apply()", x.apply(), true);
        dueNothingFound("apply()", x);
        check.due("value(5)", x.value(5), 3);
        check.due("candidates(5)", x.candidates(5), 8);
        check.due("candidates(1)", x.candidates(1), 4);
        check.due("apply() again", x.apply(), false);
        check.due("state(4)", x.state(4), 1);
        x = new HumanSteps(2);
        Grids.leaveInRow(x, 0, 2, 3, 4, 5);
        check.due("apply() before find()", x.apply(), false);
        x.find();
        String goes = Grids.goes(x);
        check.due("apply()", x.apply(), true);
        for (String gone : goes.split(" ")) {
            int candidate = Integer.parseInt(gone);
            check.due("candidate " + gone, x.candidates(candidate / 9) >> candidate % 9 & 1, 0);
        }
        check.due("state(1)", x.state(1), 729 - 6 - 6);
        check.due("state(0)", x.state(0), 81);
    }

    private void promise10Solve() {
        HumanSteps x = withLastFound();
        String before = Grids.sight(x);
        check.due("solve(-1)", x.solve(-1), -1);
        check.due("solve(least)", x.solve(Integer.MIN_VALUE), -1);
        dueSame("solve(-1)", x, before);
        check.due("solve(0)", x.solve(0), 0);
        dueNothingFound("solve(0)", x);
        check.due("state(4)", x.state(4), 0);
        check.due("solve(2)", x.solve(2), 2);
        dueNothingFound("solve(2)", x);
        check.due("state(4)", x.state(4), 2);
        HumanSteps y = withLastFound();
        y.apply();
        y.find();
        y.apply();
        check.due("solve(2) and twice apply()", Grids.sight(x), Grids.sight(y));
        check.due("solve(greatest)", x.solve(Integer.MAX_VALUE), 4);
        check.due("find() after solve()", x.find(), -1);
    }

    private void promise10SolveNone() {
        HumanSteps x = new HumanSteps(2);
        check.due("solve(100) of a new grid", x.solve(100), 0);
        x = new HumanSteps(0);
        Grids.leave(x, 5);
        check.due("solve(100) of a broken grid", x.solve(100), 0);
        x = new HumanSteps(0);
        Grids.leave(x, 0, 0);
        Grids.leave(x, 1, 0);
        check.due("solve(100) of a grid that breaks", x.solve(100), 1);
        check.due("state(2) of it", x.state(2), 1);
        check.due("undo() of the step that broke it", x.undo(), 0);
        check.due("state(2) then", x.state(2), 0);
        x = Grids.allButOne();
        check.due("solve(100) of all but one", x.solve(100), 1);
        check.due("state(0)", x.state(0), 0);
        check.due("state(1)", x.state(1), 0);
    }

    private void promise11Undo() {
        HumanSteps x = withLastFound();
        x.solve(0);
        String[] before = new String[6];
        int[] step = new int[6];
        for (int i = 0; i < 6; i++) {
            before[i] = Grids.cells(x);
            step[i] = x.find();
            check.due("a step is found", step[i] >= 0, true);
            x.apply();
        }
        check.due("find()", x.find(), -1);
        for (int i = 5; i >= 0; i--) {
            check.due("undo() of step " + i, x.undo(), step[i]);
            check.due("the cells after undo() of step " + i, Grids.cells(x), before[i]);
            check.due("state(4) after undo() of step " + i, x.state(4), i);
        }
        x = withLastFound();
        String found = Grids.sight(x);
        check.due("undo() of nothing", x.undo(), -1);
        dueSame("undo() of nothing", x, found);
        x.apply();
        x.find();
        check.due("undo()", x.undo(), 0);
        dueNothingFound("undo()", x);
        check.due("apply() after undo()", x.apply(), false);
        check.due("solve(9) after undo()", x.solve(9), 6);
    }

    private void promise11Forgets() {
        HumanSteps x = withLastFound();
        x.solve(3);
        x.set(0, 0);
        x.take(0, 0);
        check.due("undo() after set() and take() that were false", x.undo() >= 0, true);
        check.due("take(15, 0)", x.take(15, 0), true);
        check.due("undo() after take()", x.undo(), -1);
        check.due("state(4) after take()", x.state(4), 2);
        x = withLastFound();
        x.apply();
        check.due("set(15, 3)", x.set(15, 3), true);
        check.due("undo() after set()", x.undo(), -1);
        check.due("done(0) after set()", x.done(0), 1);
        x.find();
        int step = x.found(0);
        x.apply();
        check.due("undo() of a step since set()", x.undo(), step);
        check.due("undo() once more", x.undo(), -1);
        check.due("value(5) of a step before set()", x.value(5), 3);
    }

    /** Switches are no part of a step: undo() leaves them, and they leave what it can undo. */
    private void promise11Switches() {
        HumanSteps x = withLastFound();
        x.apply();
        x.enable(0, false);
        check.due("undo() after enable()", x.undo(), 0);
        check.due("enable(0, false) after undo()", x.enable(0, false), false);
    }

    private void promise12Done() {
        HumanSteps x = withLastFound();
        check.due("done(0) when found only", x.done(0), 0);
        x.solve(100);
        int sum = 0;
        for (int step = 0; step < 19; step++) {
            sum += x.done(step);
        }
        check.due("all done", sum, 6);
        check.due("done(1)", x.done(1), 1);
        check.due("done(0)", x.done(0), 5);
        x.undo();
        check.due("done(1) after undo()", x.done(1), 0);
        for (int step : new int[] {Integer.MIN_VALUE, -1, 19, Integer.MAX_VALUE}) {
            check.dueThrow("done(" + step + ")", ArrayIndexOutOfBoundsException.class, () -> x.done(step));
        }
    }

    private void promise13Candidates() {
        HumanSteps x = new HumanSteps(1);
        x.take(35, 0);
        x.take(35, 4);
        check.due("candidates(35)", x.candidates(35), 0b101110);
        x.set(35, 3);
        check.due("candidates(35) of a set cell", x.candidates(35), 8);
        for (int cell : new int[] {Integer.MIN_VALUE, -1, 36, 80, Integer.MAX_VALUE}) {
            check.dueThrow("candidates(" + cell + ")", ArrayIndexOutOfBoundsException.class,
                () -> x.candidates(cell));
        }
    }

    private void promise14Value() {
        HumanSteps x = new HumanSteps(1);
        x.set(35, 5);
        check.due("value(35)", x.value(35), 5);
        Grids.leave(x, 0, 2);
        check.due("value(0) of an open cell with one candidate", x.value(0), -1);
        x.solve(1);
        check.due("value(0) after solve(1)", x.value(0), 2);
        x.undo();
        check.due("value(0) after undo()", x.value(0), -1);
        for (int cell : new int[] {Integer.MIN_VALUE, -1, 36, 80, Integer.MAX_VALUE}) {
            check.dueThrow("value(" + cell + ")", ArrayIndexOutOfBoundsException.class, () -> x.value(cell));
        }
    }

    private void promise15State() {
        HumanSteps x = withLastFound();
        int[] want = {13, 31, 0, 4, 0};
        for (int what = 0; what < want.length; what++) {
            check.due("state(" + what + ")", x.state(what), want[what]);
        }
        x.apply();
        int[] then = {12, 26, 0, 4, 1};
        for (int what = 0; what < then.length; what++) {
            check.due("state(" + what + ") after apply()", x.state(what), then[what]);
        }
        Grids.leave(x, 15);
        check.due("state(2) of a broken grid", x.state(2), 1);
        for (int what : new int[] {Integer.MIN_VALUE, -1, 5, Integer.MAX_VALUE}) {
            check.due("state(" + what + ")", x.state(what), -1);
        }
    }

    private void promise16Words() {
        HumanSteps x = new HumanSteps(2);
        Grids.leaveInRow(x, 1, 6, 2, 5);
        Grids.leaveInRow(x, 7, 6, 2, 5);
        check.due("words(0, 0) before find()", x.words(0, 0), -1);
        x.find();
        check.due("words(0, ..)", Grids.words(x, 0), "two rows r2c3 r2c6 r8c3 r8c6");
        check.due("words(1, ..)", Grids.words(x, 1), "zwei Zeilen r2c3 r2c6 r8c3 r8c6");
        for (int i : new int[] {Integer.MIN_VALUE, -1, 28, 31, 1000, Integer.MAX_VALUE}) {
            check.due("words(0, " + i + ")", x.words(0, i), -1);
        }
        for (int language : new int[] {Integer.MIN_VALUE, -1, 2, Integer.MAX_VALUE}) {
            check.due("words(" + language + ", 0)", x.words(language, 0), -1);
        }
        x.apply();
        check.due("words(0, 0) after apply()", x.words(0, 0), -1);
        x = new HumanSteps(2);
        Grids.leave(x, 80, 0);
        x.find();
        check.due("words(1, ..) of the last cell", Grids.words(x, 1), "letzte r9c9");
    }

    /** Every step's names, each on a grid where that step alone is switched on. */
    private void promise16Names() {
        int[] told = new int[19];
        for (int step = 0; step < 19; step++) {
            for (HumanSteps x : gridsOfAllSteps()) {
                Grids.switchAll(x, false);
                x.enable(step, true);
                if (x.find() == step) {
                    for (int language = 0; language < 2; language++) {
                        String text = Grids.words(x, language);
                        int end = text.length() - 5 * x.found(1);
                        check.due("name of step " + step, text.substring(0, end), Reference.NAMES[language][step]);
                    }
                    told[step]++;
                }
            }
            check.due("grids for the name of step " + step, told[step] > 0, true);
        }
    }

    private static HumanSteps[] gridsOfAllSteps() {
        HumanSteps sets = new HumanSteps(2);
        Grids.leave(sets, 0, 0);
        Grids.leave(sets, 4, 0, 1);
        Grids.leave(sets, 6, 2, 3);
        Grids.leave(sets, 8, 1, 2);
        Grids.leave(sets, 10, 1, 2, 3);
        Grids.leave(sets, 13, 1, 2);
        HumanSteps hidden = new HumanSteps(2);
        Grids.leaveInRow(hidden, 0, 3, 1, 2);
        Grids.leaveInRow(hidden, 0, 4, 1, 2);
        Grids.leaveInRow(hidden, 0, 5, 1, 2, 8);
        Grids.leaveInColumn(hidden, 3, 0, 8);
        Grids.leaveInRow(hidden, 4, 8, 5);
        Grids.takeFrom(hidden, 7, 9, 10, 11, 18, 19, 20);
        Grids.takeFrom(hidden, 6, 60, 61, 62, 69, 70, 71, 78, 79);
        HumanSteps rows = new HumanSteps(2);
        Grids.leaveInRow(rows, 0, 8, 0, 4);
        Grids.leaveInRow(rows, 4, 8, 0, 4);
        Grids.leaveInRow(rows, 3, 7, 0, 4);
        Grids.leaveInRow(rows, 6, 7, 4, 8);
        Grids.leaveInRow(rows, 8, 7, 0, 8);
        HumanSteps columns = new HumanSteps(2);
        Grids.leaveInColumn(columns, 0, 8, 0, 4);
        Grids.leaveInColumn(columns, 4, 8, 0, 4);
        Grids.leaveInColumn(columns, 3, 7, 0, 4);
        Grids.leaveInColumn(columns, 6, 7, 4, 8);
        Grids.leaveInColumn(columns, 8, 7, 0, 8);
        HumanSteps wings = new HumanSteps(2);
        Grids.leave(wings, 0, 0, 1);
        Grids.leave(wings, 5, 0, 2);
        Grids.leave(wings, 10, 1, 2);
        Grids.leave(wings, 80, 0, 1, 2);
        Grids.leave(wings, 75, 0, 2);
        Grids.leave(wings, 70, 1, 2);
        HumanSteps rest = new HumanSteps(2);
        Grids.leaveInRow(rest, 0, 8, 0, 4);
        Grids.leaveInColumn(rest, 4, 8, 0, 4);
        Grids.leaveInRow(rest, 4, 8, 1, 4);
        Grids.leave(rest, 54, 0, 1);
        Grids.leave(rest, 58, 0, 1);
        Grids.leave(rest, 63, 0, 1);
        Grids.leave(rest, 67, 0, 1, 2);
        return new HumanSteps[] {sets, hidden, rows, columns, wings, rest};
    }
}
