/** Grids laid out by hand, and what is found on them written out, for the tests. */
final class Grids {
    private Grids() {
    }

    /** Takes all candidates of a cell but these. */
    static void leave(HumanSteps x, int cell, int... symbols) {
        for (int symbol = 0; symbol < x.state(3); symbol++) {
            if (!holds(symbols, symbol)) {
                x.take(cell, symbol);
            }
        }
    }

    static void leaveInRow(HumanSteps x, int row, int symbol, int... columns) {
        int n = x.state(3);
        for (int column = 0; column < n; column++) {
            if (!holds(columns, column)) {
                x.take(n * row + column, symbol);
            }
        }
    }

    static void leaveInColumn(HumanSteps x, int column, int symbol, int... rows) {
        int n = x.state(3);
        for (int row = 0; row < n; row++) {
            if (!holds(rows, row)) {
                x.take(n * row + column, symbol);
            }
        }
    }

    /** Takes a symbol from these cells. */
    static void takeFrom(HumanSteps x, int symbol, int... cells) {
        for (int cell : cells) {
            x.take(cell, symbol);
        }
    }

    static void switchAll(HumanSteps x, boolean on) {
        for (int step = 0; step < 19; step++) {
            x.enable(step, on);
        }
    }

    /** A 4 by 4 grid with every cell set but the last one. */
    static HumanSteps allButOne() {
        HumanSteps x = new HumanSteps(0);
        int[] answer = {0, 1, 2, 3, 2, 3, 0, 1, 1, 0, 3, 2, 3, 2, 1};
        for (int cell = 0; cell < answer.length; cell++) {
            x.set(cell, answer[cell]);
        }
        return x;
    }

    static String reason(HumanSteps x) {
        StringBuilder text = new StringBuilder();
        for (int k = 0; x.reason(k) >= 0; k++) {
            text.append(k == 0 ? "" : " ").append(x.reason(k));
        }
        return text.toString();
    }

    static String goes(HumanSteps x) {
        StringBuilder text = new StringBuilder();
        for (int k = 0; x.goes(k) >= 0; k++) {
            text.append(k == 0 ? "" : " ").append(x.goes(k));
        }
        return text.toString();
    }

    static String words(HumanSteps x, int language) {
        StringBuilder text = new StringBuilder();
        for (int i = 0; x.words(language, i) >= 0; i++) {
            text.append((char) x.words(language, i));
        }
        return text.toString();
    }

    /** All that can be seen of a grid but its switches, for calls that must leave it alone. */
    static String sight(HumanSteps x) {
        StringBuilder text = new StringBuilder();
        for (int cell = 0; cell < x.state(3) * x.state(3); cell++) {
            text.append(x.candidates(cell)).append('/').append(x.value(cell)).append(' ');
        }
        for (int step = 0; step < 19; step++) {
            text.append(x.done(step)).append(' ');
        }
        for (int k = 0; k < 5; k++) {
            text.append(x.state(k)).append(' ').append(x.found(k)).append(' ');
        }
        return text.append(reason(x)).append(" | ").append(goes(x)).append(words(x, 0)).append(words(x, 1)).toString();
    }

    private static boolean holds(int[] numbers, int number) {
        for (int one : numbers) {
            if (one == number) {
                return true;
            }
        }
        return false;
    }
}
