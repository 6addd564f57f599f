import java.io.IOException;
import java.lang.reflect.Method;
import java.lang.reflect.Modifier;
import java.nio.file.Files;
import java.nio.file.Path;

/** README.md tells every call of the class, and its example answers what it says there. */
public final class ReadmeTest {
    private ReadmeTest() {
    }

    public static void main(String[] args) throws IOException {
        Check check = new Check("ReadmeTest");
        String readme = Files.readString(Path.of("README.md"));
        for (Method method : HumanSteps.class.getDeclaredMethods()) {
            if (Modifier.isPublic(method.getModifiers())) {
                check.due(method.getName() + " is told", readme.contains("| `" + method.getName() + "("), true);
            }
        }
        check.due(".ci/run is told", readme.contains(".ci/run"), true);
        makeExample(check);
        check.end();
    }

    private static void makeExample(Check check) {
        HumanSteps grid = new HumanSteps(0);
        grid.set(0, 0);
        grid.set(6, 2);
        grid.set(9, 1);
        check.due("find()", grid.find(), 0);
        check.due("found(3)", grid.found(3), 5);
        check.due("found(4)", grid.found(4), 3);
        check.due("words of language 0", Grids.words(grid, 0), "last r2c2");
        check.due("apply()", grid.apply(), true);
        check.due("solve(100)", grid.solve(100), 5);
        check.due("undo()", grid.undo(), 1);
    }
}
