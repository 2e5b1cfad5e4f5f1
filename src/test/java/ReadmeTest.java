import java.io.IOException;
import java.lang.reflect.Method;
import java.lang.reflect.Modifier;
import java.nio.file.Files;
import java.nio.file.Path;
import java.util.regex.Matcher;
import java.util.regex.Pattern;

/**
 * The answers in README.md's example are those of the class, and README.md names every call. The
 * path of the class's source is the first argument; README.md stands at the root of its project.
 */
public final class ReadmeTest {
    private static final Pattern SYSTEM = Pattern.compile("String system = \"([^\"]*)\";");
    private static final Pattern ANSWERED = Pattern.compile("enumerator\\.(\\w+\\([^)]*\\)); *// (-?\\d+):");
    private static final Pattern CALLED = Pattern.compile("= enumerator\\.");

    private static boolean failed = false;

    public static void main(String[] args) throws IOException {
        Path root = Path.of(args[0]).toAbsolutePath().normalize().getParent().getParent().getParent().getParent();
        String readme = Files.readString(root.resolve("README.md"));
        example(readme);
        everyCallIsNamed(readme);
        if (failed) {
            System.exit(1);
        }
        Script.end();
    }

    private static void check(String what, boolean holds) {
        if (!holds) {
            failed = true;
            System.out.println("README.md: " + what);
        }
    }

    private static void example(String readme) {
        Matcher system = SYSTEM.matcher(readme);
        check("the example has no system", system.find());
        if (failed) {
            return;
        }
        Script script = Script.of("README.md").text(system.group(1));
        Matcher answers = ANSWERED.matcher(readme);
        int played = 0;
        while (answers.find()) {
            script.due(answers.group(1) + " = " + answers.group(2));
            played++;
        }
        long written = CALLED.matcher(readme).results().count();
        check("of " + written + " calls with an answer only " + played + " tell it", written > 0 && written == played);
    }

    private static void everyCallIsNamed(String readme) {
        for (Method method : ConflictEnumerator.class.getDeclaredMethods()) {
            if (Modifier.isPublic(method.getModifiers())) {
                check(method.getName() + " is not named", readme.contains("`" + method.getName() + "`"));
            }
        }
    }
}
