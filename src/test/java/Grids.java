/** Grids laid out by hand, and what is found on them written out, for the tests. */
final class Grids {
    /** Some calls on an object, that can be made again on another one. */
    interface Run {
        void on(HumanSteps x);
    }

    private Grids() {
    }

    static HumanSteps made(int kind, Run... runs) {
        HumanSteps x = new HumanSteps(kind);
        for (Run run : runs) {
            run.on(x);
        }
        return x;
    }

    /** Takes all candidates of a cell but these. */
    static void leave(HumanSteps x, int cell, int... symbols) {
        for (int symbol = 0; symbol < x.state(3); symbol++) {
            if (!holds(symbols, symbol)) {
                x.take(cell, symbol);
            }
        }
    }

    static void leaveInRow(HumanSteps x, int row, int symbol, int... columns) {
        int n = x.state(3);
        for (int column = 0; column < n; column++) {
            if (!holds(columns, column)) {
                x.take(n * row + column, symbol);
            }
        }
    }

    static void leaveInColumn(HumanSteps x, int column, int symbol, int... rows) {
        int n = x.state(3);
        for (int row = 0; row < n; row++) {
            if (!holds(rows, row)) {
                x.take(n * row + column, symbol);
            }
        }
    }

    /** Takes a symbol from these cells. */
    static void takeFrom(HumanSteps x, int symbol, int... cells) {
        for (int cell : cells) {
            x.take(cell, symbol);
        }
    }

    static void switchAll(HumanSteps x, boolean on) {
        for (int step = 0; step < 19; step++) {
            x.enable(step, on);
        }
    }

    /** A 4 by 4 grid with every cell set but the last one. */
    static HumanSteps allButOne() {
        HumanSteps x = new HumanSteps(0);
        int[] answer = {0, 1, 2, 3, 2, 3, 0, 1, 1, 0, 3, 2, 3, 2, 1};
        for (int cell = 0; cell < answer.length; cell++) {
            x.set(cell, answer[cell]);
        }
        return x;
    }

    static String reason(HumanSteps x) {
        StringBuilder text = new StringBuilder();
        for (int k = 0; x.reason(k) >= 0; k++) {
            text.append(k == 0 ? "" : " ").append(x.reason(k));
        }
        return text.toString();
    }

    static String goes(HumanSteps x) {
        StringBuilder text = new StringBuilder();
        for (int k = 0; x.goes(k) >= 0; k++) {
            text.append(k == 0 ? "" : " ").append(x.goes(k));
        }
        return text.toString();
    }

    static String words(HumanSteps x, int language) {
        StringBuilder text = new StringBuilder();
        int letter = x.words(language, 0);
        for (int i = 1; letter >= 0; i++) {
            text.append((char) letter);
            letter = x.words(language, i);
        }
        return text.toString();
    }

    /** All that can be seen of a grid but its switches, for calls that must leave it alone. */
    static String sight(HumanSteps x) {
        return cells(x) + counts(x) + finding(x) + words(x, 0) + words(x, 1);
    }

    /**
     * All that can be known of an object after these runs: the grid, the counts, what is found, the
     * switches, and what find(), solve() and undo() lead to. Each part asks an object of its own, so
     * that none is used for more calls than the document allows.
     */
    static String exam(int kind, Run... runs) {
        StringBuilder text = new StringBuilder();
        text.append("cells ").append(cells(made(kind, runs)));
        text.append("counts ").append(counts(made(kind, runs)));
        text.append("found ").append(finding(made(kind, runs)));
        text.append(words(made(kind, runs), 0)).append(' ').append(words(made(kind, runs), 1));
        text.append(" off").append(switchedOff(made(kind, runs)));
        text.append(" find ").append(next(made(kind, runs)));
        HumanSteps solved = made(kind, runs);
        text.append("solve ").append(solved.solve(100)).append(' ').append(cells(solved));
        int step = 0;
        for (int times = 1; step >= 0; times++) {
            HumanSteps x = made(kind, runs);
            for (int i = 0; i < times; i++) {
                step = x.undo();
            }
            text.append(" undo ").append(step).append(' ').append(cells(x)).append(counts(x)).append(next(x));
        }
        return text.toString();
    }

    private static String next(HumanSteps x) {
        return x.find() + " " + finding(x);
    }

    static String cells(HumanSteps x) {
        StringBuilder text = new StringBuilder();
        int n = x.state(3);
        for (int cell = 0; cell < n * n; cell++) {
            text.append(x.candidates(cell)).append('/').append(x.value(cell)).append(' ');
        }
        return text.toString();
    }

    private static String counts(HumanSteps x) {
        StringBuilder text = new StringBuilder();
        for (int step = 0; step < 19; step++) {
            text.append(x.done(step)).append(' ');
        }
        for (int what = 0; what < 5; what++) {
            text.append(x.state(what)).append(' ');
        }
        return text.toString();
    }

    private static String finding(HumanSteps x) {
        StringBuilder text = new StringBuilder();
        for (int k = 0; k < 5; k++) {
            text.append(x.found(k)).append(' ');
        }
        return text.append(reason(x)).append(" | ").append(goes(x)).append(' ').toString();
    }

    private static String switchedOff(HumanSteps x) {
        StringBuilder text = new StringBuilder();
        for (int step = 0; step < 19; step++) {
            text.append(x.enable(step, true) ? " " + step : "");
        }
        return text.toString();
    }

    static boolean holds(int[] numbers, int number) {
        for (int one : numbers) {
            if (one == number) {
                return true;
            }
        }
        return false;
    }
}
