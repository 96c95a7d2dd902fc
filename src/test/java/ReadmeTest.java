import java.io.IOException;
import java.lang.reflect.Method;
import java.lang.reflect.Modifier;
import java.nio.file.DirectoryStream;
import java.nio.file.Files;
import java.nio.file.Path;
import java.util.regex.Matcher;
import java.util.regex.Pattern;

/** README.md: its example answers as it says, and it names every call and every test. */
public final class ReadmeTest {
    private static final Pattern BLOCK = Pattern.compile("```java\n(.*?)```", Pattern.DOTALL);
    private static final Pattern CALL = Pattern.compile("x\\.(\\w+)\\(([^)]*)\\); *// (-?\\d+)(:.*)?");

    private static int wrong = 0;

    private static void check(boolean holds, String fault) {
        if (!holds) {
            wrong++;
            System.out.println(fault);
        }
    }

    private static String example(String page) {
        Matcher block = BLOCK.matcher(page);
        check(block.find(), "there is no example");
        return wrong == 0 ? block.group(1) : "";
    }

    /** The example's calls as lines of a script. */
    private static String script(String example) {
        StringBuilder lines = new StringBuilder();
        for (String line : example.split("\n")) {
            Matcher call = CALL.matcher(line);
            if (call.matches()) {
                String arguments = call.group(2).replace(",", "");
                lines.append(call.group(1)).append(" ").append(arguments)
                    .append(" = ").append(call.group(3)).append("\n");
            } else {
                boolean other = line.isBlank() || line.equals("ReferenceTables x = new ReferenceTables();");
                check(other, "not a call with its answer: " + line);
            }
        }
        return lines.toString();
    }

    private static void checkCalls(String page) {
        for (Method method : ReferenceTables.class.getDeclaredMethods()) {
            boolean named = page.contains("`" + method.getName() + "`");
            check(named || !Modifier.isPublic(method.getModifiers()), "does not name the call " + method.getName());
        }
    }

    private static void checkTests(String page) throws IOException {
        try (DirectoryStream<Path> tests = Files.newDirectoryStream(Path.of("src/test/java"), "*.java")) {
            for (Path test : tests) {
                check(page.contains("`" + test + "`"), "does not name the test " + test);
            }
        }
        check(page.contains(".ci/run") && page.contains("../shared/tests"), "does not say how to run the tests");
    }

    public static void main(String[] args) throws IOException {
        String page = Files.readString(Path.of("README.md"));
        String example = example(page);
        checkCalls(page);
        checkTests(page);
        Script.answers("the example of README.md", script(example));
        if (wrong != 0) {
            System.exit(1);
        }
        Script.end();
    }
}
