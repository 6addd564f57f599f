import java.util.function.Supplier;

/**
 * The same runs of calls on HumanSteps and on Reference, answer by answer, on grids that lead to each
 * of the nineteen steps. A fixed row of numbers picks the calls, so every run is the same.
 */
public final class AgainstReferenceTest {
    private static final int LEAST_FOUND = 8;

    private final Check check = new Check("AgainstReferenceTest");
    private final int[] foundTimes = new int[19];
    private int brokenTimes;
    private long seed = 20261115;
    private HumanSteps steps;
    private Reference reference;
    private int[] answer;
    private int n;

    public static void main(String[] args) {
        int runs = args.length > 0 ? Integer.parseInt(args[0]) : 500;
        new AgainstReferenceTest().go(runs, args.length > 1 ? Long.parseLong(args[1]) : 20261115);
    }

    private void go(int runs, long firstSeed) {
        seed = firstSeed;
        for (int run = 0; run < runs && check.wrong() == 0; run++) {
            oneRun(run);
        }
        for (int step = 0; step < 19; step++) {
            check.due("runs that found step " + step, foundTimes[step] >= LEAST_FOUND, true);
        }
        check.due("runs that came upon a broken grid", brokenTimes >= LEAST_FOUND, true);
        check.end();
    }

    private int next(int bound) {
        seed = seed * 6364136223846793005L + 1442695040888963407L;
        return (int) ((seed >>> 33) % bound);
    }

    private void oneRun(int run) {
        int kind = run % 5 < 3 ? 2 : run % 5 - 3;
        steps = new HumanSteps(kind);
        reference = new Reference(kind);
        n = reference.n;
        answer = fullGrid(kind);
        int aim = run % 20;
        switchOffBelow(aim);
        if (aim >= 11 && aim <= 14) {
            plantLines(aim >= 13 ? 3 : 2, aim % 2 == 1);
        } else if (aim == 18) {
            plantRectangle();
        } else {
            setSome(next(n * n / 3));
            takeSome(next(n * n * n * 5 / 2));
        }
        takeSome(next(2 * n));
        findAndCompare();
        for (int round = 0; round < 10 && check.wrong() == 0; round++) {
            oneRound();
        }
    }

    private void oneRound() {
        switch (next(12)) {
            case 0:
                check.due("undo()", steps.undo(), reference.undo());
                break;
            case 1:
                int most = next(6) - 1;
                check.due("solve(" + most + ")", steps.solve(most), reference.solve(most));
                break;
            case 2:
                int step = next(19);
                enable(step, next(2) == 0);
                break;
            case 3:
                set(next(n * n), next(n));
                break;
            case 4:
                int cell = next(n * n);
                set(cell, answer[cell]);
                break;
            case 5:
                takeSome(1 + next(2 * n));
                break;
            case 6:
                callAtTheEdges(edge(), edge());
                break;
            default:
                findAndCompare();
                compare();
                if (next(5) != 0) {
                    check.due("apply()", steps.apply(), reference.apply());
                }
                break;
        }
        compare();
    }

    /** A number at the edge of some range of arguments, on either side of it. */
    private int edge() {
        int[] edges = {Integer.MIN_VALUE, -1, 0, 1, 2, 4, 5, n - 1, n, n * n - 1, n * n, 18, 19, 31, 32,
            Integer.MAX_VALUE};
        return edges[next(edges.length)];
    }

    private void callAtTheEdges(int a, int b) {
        boolean on = next(2) == 0;
        String of = "(" + a + ", " + b + ")";
        dueAlike("candidates" + of, () -> steps.candidates(a), () -> reference.candidates(a));
        dueAlike("value" + of, () -> steps.value(a), () -> reference.value(a));
        dueAlike("done" + of, () -> steps.done(a), () -> reference.done(a));
        dueAlike("found" + of, () -> steps.found(a), () -> reference.found(a));
        dueAlike("reason" + of, () -> steps.reason(a), () -> reference.reason(a));
        dueAlike("goes" + of, () -> steps.goes(a), () -> reference.goes(a));
        dueAlike("state" + of, () -> steps.state(a), () -> reference.state(a));
        dueAlike("words" + of, () -> steps.words(a, b), () -> reference.words(a, b));
        dueAlike("set" + of, () -> steps.set(a, b), () -> reference.set(a, b));
        dueAlike("take" + of, () -> steps.take(b, a), () -> reference.take(b, a));
        dueAlike("enable" + of, () -> steps.enable(b, on), () -> reference.enable(b, on));
        dueAlike("solve" + of, () -> steps.solve(b), () -> reference.solve(b));
    }

    private void dueAlike(String call, Supplier<Object> made, Supplier<Object> due) {
        check.due(call, answerOf(made), answerOf(due));
    }

    private static String answerOf(Supplier<Object> call) {
        try {
            return String.valueOf(call.get());
        } catch (RuntimeException e) {
            return e.getClass().getName();
        }
    }

    private void setSome(int count) {
        for (int i = 0; i < count; i++) {
            int cell = next(n * n);
            set(cell, answer[cell]);
        }
    }

    /** A symbol is left in so many lines only where they cross as many others. */
    private void plantLines(int size, boolean rows) {
        int symbol = next(n);
        int[] lines = shuffled(n);
        int[] across = shuffled(n);
        for (int i = 0; i < size; i++) {
            for (int j = size; j < n; j++) {
                take(rows ? n * lines[i] + across[j] : n * across[j] + lines[i], symbol);
            }
        }
        if (next(2) == 0) {
            take(rows ? n * lines[0] + across[0] : n * across[0] + lines[0], symbol);
        }
    }

    private void plantRectangle() {
        int wide = n == 4 ? 2 : 3;
        int[] rows = shuffled(n);
        int[] columns = shuffled(n);
        columns[1] = columns[0] % wide == 0 ? columns[0] + 1 : columns[0] - 1;
        int[] symbols = shuffled(n);
        int[] four = {n * rows[0] + columns[0], n * rows[0] + columns[1], n * rows[1] + columns[0],
            n * rows[1] + columns[1]};
        for (int i = 0; i < 4; i++) {
            for (int j = i == 3 ? 3 + next(2) : 2; j < n; j++) {
                take(four[i], symbols[j]);
            }
        }
    }

    /** A step that is hard to come to needs the easier ones switched off, some runs but for one of them. */
    private void switchOffBelow(int aim) {
        for (int step = 0; step < aim && step < 18; step++) {
            enable(step, false);
        }
        enable(18, aim == 18);
        if (next(3) == 0) {
            enable(next(19), true);
        }
    }

    private void enable(int step, boolean on) {
        check.due("enable(" + step + ", " + on + ")", steps.enable(step, on), reference.enable(step, on));
    }

    private void set(int cell, int symbol) {
        check.due("set(" + cell + ", " + symbol + ")", steps.set(cell, symbol), reference.set(cell, symbol));
    }

    /** Mostly candidates that the answer does not need, to keep the grid whole. */
    private void takeSome(int count) {
        for (int i = 0; i < count; i++) {
            int cell = next(n * n);
            int symbol = next(n);
            if (symbol != answer[cell] || next(1000) == 0) {
                take(cell, symbol);
            }
        }
    }

    private void take(int cell, int symbol) {
        check.due("take(" + cell + ", " + symbol + ")", steps.take(cell, symbol), reference.take(cell, symbol));
    }

    private void findAndCompare() {
        int want = reference.find();
        check.due("find()", steps.find(), want);
        if (want >= 0) {
            foundTimes[want]++;
        } else if (want == -2) {
            brokenTimes++;
        }
    }

    private void compare() {
        for (int k = -1; k <= 5; k++) {
            check.due("found(" + k + ")", steps.found(k), reference.found(k));
            check.due("state(" + k + ")", steps.state(k), reference.state(k));
        }
        for (int k = -1; k <= Math.max(0, reference.found(1)); k++) {
            check.due("reason(" + k + ")", steps.reason(k), reference.reason(k));
        }
        for (int k = -1; k <= Math.max(0, reference.found(2)); k++) {
            check.due("goes(" + k + ")", steps.goes(k), reference.goes(k));
        }
        for (int i = -1; i < 20 + 5 * Math.max(0, reference.found(1)); i++) {
            for (int language = -1; language <= 2; language++) {
                check.due("words(" + language + ", " + i + ")",
                    steps.words(language, i), reference.words(language, i));
            }
        }
        for (int cell = 0; cell < n * n; cell++) {
            check.due("candidates(" + cell + ")", steps.candidates(cell), reference.candidates(cell));
            check.due("value(" + cell + ")", steps.value(cell), reference.value(cell));
        }
        for (int step = 0; step < 19; step++) {
            check.due("done(" + step + ")", steps.done(step), reference.done(step));
        }
    }

    /** A full grid: a shifted pattern with its symbols, and the lines of a band, in another order. */
    private int[] fullGrid(int kind) {
        int wide = kind == 0 ? 2 : 3;
        int high = n / wide;
        int[] rows = lineOrder(high);
        int[] columns = lineOrder(wide);
        int[] symbols = shuffled(n);
        int[] grid = new int[n * n];
        for (int y = 0; y < n; y++) {
            for (int x = 0; x < n; x++) {
                int row = rows[y];
                grid[n * y + x] = symbols[(row % high * wide + row / high + columns[x]) % n];
            }
        }
        return grid;
    }

    private int[] lineOrder(int inBand) {
        int[] bands = shuffled(n / inBand);
        int[] order = new int[n];
        for (int band = 0; band < bands.length; band++) {
            int[] inside = shuffled(inBand);
            for (int i = 0; i < inBand; i++) {
                order[band * inBand + i] = bands[band] * inBand + inside[i];
            }
        }
        return order;
    }

    private int[] shuffled(int count) {
        int[] numbers = new int[count];
        for (int i = 0; i < count; i++) {
            int j = next(i + 1);
            numbers[i] = numbers[j];
            numbers[j] = i;
        }
        return numbers;
    }
}
