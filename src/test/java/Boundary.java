import java.io.IOException;
import java.lang.reflect.Method;
import java.nio.file.Files;
import java.nio.file.Path;
import java.util.ArrayList;
import java.util.Comparator;
import java.util.LinkedHashMap;
import java.util.List;
import java.util.Map;

/**
 * What the tests of the boundary cases share. Each sentence of the document that names such a case has
 * a method of its own that bears the sentence; no object is asked more than the 512 calls it is for.
 */
abstract class Boundary {
    private static final Path DOCUMENT = Path.of("..", "shared", "DOC.md");

    static final int LEAST = Integer.MIN_VALUE;
    static final int GREATEST = Integer.MAX_VALUE;
    static final int[] SIZES = {4, 6, 9};
    static final int[] NO_STEPS = {LEAST, -19, -1, 19, 20, 32, GREATEST};
    static final Class<ArrayIndexOutOfBoundsException> NO_SUCH_PLACE = ArrayIndexOutOfBoundsException.class;
    static final Class<IllegalArgumentException> NO_SUCH_SYMBOL = IllegalArgumentException.class;

    /** Found: step 0, that sets cell 5 to 3. */
    static final Grids.Run LAST_FOUND = x -> {
        x.set(0, 0);
        x.set(6, 2);
        x.set(9, 1);
        x.find();
    };

    /** A bit of everything: a switch off, three steps done (cells 5, 1, 4), a fourth found (cell 7). */
    static final Grids.Run BUSY = x -> {
        x.set(0, 0);
        x.set(6, 2);
        x.set(9, 1);
        x.enable(7, false);
        x.solve(3);
        x.find();
    };

    /**
     * Found: step 17 on nineteen cells, the longest reason here; no other step is on. Two of the light
     * ones see each other, and two of the dark ones do too.
     */
    static final Grids.Run LONG_REASON = x -> {
        Grids.switchAll(x, false);
        x.enable(17, true);
        int[][] columns = {{0, 7}, {2, 4}, {5, 6}, {3, 6}, {1, 8}, {1, 5}, {1, 3, 8}, {4, 6}, {0, 5}};
        for (int row = 0; row < 9; row++) {
            Grids.leaveInRow(x, row, 8, columns[row]);
        }
        x.find();
    };

    final Check check = new Check(getClass().getSimpleName());

    final void runAll(int firstPromise, int lastPromise) {
        List<Method> tests = new ArrayList<>();
        for (Method method : getClass().getDeclaredMethods()) {
            if (method.isAnnotationPresent(Sentence.class)) {
                tests.add(method);
            }
        }
        tests.sort(Comparator.comparing((Method m) -> sentenceOf(m).promise()).thenComparing(Method::getName));
        for (Method test : tests) {
            Sentence sentence = sentenceOf(test);
            check.about("promise " + sentence.promise() + ", \"" + sentence.says() + "\"");
            check.due("the sentence stands in the document", stands(sentence), true);
            int asked = check.asked();
            make(test);
            check.due("answers asked for it", check.asked() > asked, true);
        }
        for (int promise = firstPromise; promise <= lastPromise; promise++) {
            int wanted = promise;
            check.about("promise " + promise);
            check.due("it has a test", tests.stream().anyMatch(m -> sentenceOf(m).promise() == wanted), true);
        }
        check.end();
    }

    private static Sentence sentenceOf(Method test) {
        return test.getAnnotation(Sentence.class);
    }

    private void make(Method test) {
        try {
            test.invoke(this);
        } catch (ReflectiveOperationException e) {
            check.due(test.getName() + " ended by " + e.getCause(), true, false);
        }
    }

    private static boolean stands(Sentence sentence) {
        if (!Files.isReadable(DOCUMENT)) {
            return true;
        }
        try {
            return Files.readString(DOCUMENT).split("## Promise ")[sentence.promise()].contains(sentence.says());
        } catch (IOException e) {
            return false;
        }
    }

    /** Nothing at all is changed by a refused call: not the grid, the counts, what is found, what can be undone. */
    final void dueNothingDone(String call, Grids.Run refused) {
        dueNothingDone(call, 0, BUSY, refused);
    }

    final void dueNothingDone(String call, int kind, Grids.Run before, Grids.Run refused) {
        check.due("all after " + call, Grids.exam(kind, before, refused), Grids.exam(kind, before));
    }

    final void dueThrowDoingNothing(String call, Class<? extends RuntimeException> want, Grids.Run wrong) {
        dueNothingDone(call, x -> check.dueThrow(call, want, () -> wrong.on(x)));
    }

    final void dueNothingFound(String when, HumanSteps x) {
        for (int k = 0; k < 5; k++) {
            check.due("found(" + k + ") " + when, x.found(k), -1);
        }
        check.due("reason(0) " + when, x.reason(0), -1);
        check.due("goes(0) " + when, x.goes(0), -1);
        check.due("words(0, 0) " + when, x.words(0, 0), -1);
        check.due("words(1, 0) " + when, x.words(1, 0), -1);
    }

    /** Every way to stand on a grid of kind 0 with nothing found, though most of them had found a step. */
    static Map<String, Grids.Run> waysToFindNothing() {
        Map<String, Grids.Run> ways = new LinkedHashMap<>();
        ways.put("on a new object", x -> { });
        ways.put("before find()", x -> Grids.leave(x, 0, 0));
        ways.put("after find() that was -1", then(x -> Grids.switchAll(x, false), HumanSteps::find));
        ways.put("after find() that was -2", then(x -> Grids.leave(x, 15), HumanSteps::find));
        ways.put("after set()", then(x -> x.set(15, 0)));
        ways.put("after set() of the cell found", then(x -> x.set(5, 3)));
        ways.put("after take()", then(x -> x.take(15, 0)));
        ways.put("after enable() of the step found", then(x -> x.enable(0, false)));
        ways.put("after enable() of another step", then(x -> x.enable(18, true)));
        ways.put("after apply()", then(HumanSteps::apply));
        ways.put("after solve(0)", then(x -> x.solve(0)));
        ways.put("after solve(2)", then(x -> x.solve(2)));
        ways.put("after solve(100)", then(x -> x.solve(100)));
        ways.put("after undo()", then(HumanSteps::apply, HumanSteps::find, HumanSteps::undo));
        return ways;
    }

    private static Grids.Run then(Grids.Run... runs) {
        return x -> {
            LAST_FOUND.on(x);
            for (Grids.Run run : runs) {
                run.on(x);
            }
        };
    }

    static int cellOf(int kind, int house, int place) {
        int n = SIZES[kind];
        if (house < n) {
            return n * house + place;
        }
        if (house < 2 * n) {
            return n * place + house - n;
        }
        int wide = kind == 0 ? 2 : 3;
        int high = n / wide;
        int top = (house - 2 * n) / (n / wide) * high;
        int left = (house - 2 * n) % (n / wide) * wide;
        return n * (top + place / wide) + left + place % wide;
    }

    /** Numbers beside a grid's cells, those that are cells of a greater grid or by a wrap-around too. */
    static int[] noCells(int n) {
        return new int[] {LEAST, LEAST + 1, -n * n, -1, n * n, n * n + 1, 81, 256, 65536, GREATEST - 1, GREATEST};
    }

    /** Numbers beside a grid's symbols; a shift by 32 or 64 would take them for symbol 0. */
    static int[] noSymbols(int n) {
        return new int[] {LEAST, LEAST + 1, -32, -n, -1, n, n + 1, 9, 31, 32, 33, 64, GREATEST - 1, GREATEST};
    }
}
