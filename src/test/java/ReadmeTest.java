import java.io.IOException;
import java.lang.reflect.Method;
import java.nio.file.Files;
import java.nio.file.Path;
import java.util.Map;
import java.util.regex.Matcher;
import java.util.regex.Pattern;

// README.md is right where a test can tell: its example, and the calls and constants it names. Run
// from the project's root.
public final class ReadmeTest {
    private static final Map<String, Integer> CONSTANTS = Map.of(
        "BAD_ARG", ShapeRing.BAD_ARG, "FULL", ShapeRing.FULL, "NONE", ShapeRing.NONE);
    private static final Pattern EXAMPLE =
        Pattern.compile("ring\\.(\\w+)\\(([^)]*)\\); +// (-?\\d+|BAD_ARG|FULL|NONE)(: .*)?");
    private static final Pattern FACE = Pattern.compile("public int (\\w+\\([^)]*\\));");

    private final Check check = new Check();
    private final ShapeRing ring = new ShapeRing();
    private final String readme;

    private ReadmeTest(String readme) {
        this.readme = readme;
    }

    public static void main(String[] args) throws IOException, ReflectiveOperationException {
        ReadmeTest test = new ReadmeTest(Files.readString(Path.of("README.md")));
        test.example();
        test.calls(Files.readString(Path.of("../shared/DOC.md")));
        test.constants();
        test.tests();
        test.check.end("ReadmeTest");
    }

    private void example() throws ReflectiveOperationException {
        int begin = readme.indexOf("```java\n") + "```java\n".length();
        String[] lines = readme.substring(begin, readme.indexOf("```\n", begin)).split("\n");
        check.due("the example begins with a new object",
            lines[0].equals("ShapeRing ring = new ShapeRing();"));
        check.due("the example has calls", lines.length > 1);
        for (int line = 1; line < lines.length; line++) {
            Matcher matcher = EXAMPLE.matcher(lines[line]);
            check.due("a call and its answer: " + lines[line], matcher.matches());
            if (matcher.matches()) {
                String answer = matcher.group(3);
                int want = CONSTANTS.containsKey(answer)
                    ? CONSTANTS.get(answer) : Integer.parseInt(answer);
                check.due(lines[line], call(matcher.group(1), matcher.group(2)), want);
            }
        }
    }

    private int call(String name, String list) throws ReflectiveOperationException {
        String[] words = list.isEmpty() ? new String[0] : list.split(", ");
        Object[] arguments = new Object[words.length];
        Class<?>[] types = new Class<?>[words.length];
        for (int n = 0; n < words.length; n++) {
            arguments[n] = Integer.valueOf(words[n]);
            types[n] = int.class;
        }
        Method method = ShapeRing.class.getMethod(name, types);
        return (Integer) method.invoke(ring, arguments);
    }

    // Each method of the document's face has a row of a table.
    private void calls(String document) {
        Matcher matcher = FACE.matcher(document);
        int found = 0;
        while (matcher.find()) {
            found++;
            String call = matcher.group(1).replace("int ", "");
            check.due("a row for " + call, readme.contains("\n| `" + call + "` | "));
        }
        check.due("methods of the face", found, 16);
        check.due("rows that begin with a call", readme.split("\n\\| `").length - 1, 16);
    }

    private void constants() {
        for (Map.Entry<String, Integer> constant : CONSTANTS.entrySet()) {
            String told = "- `" + constant.getKey() + "` (" + constant.getValue() + ")";
            check.due("README tells " + told, readme.contains(told));
        }
    }

    private void tests() throws IOException {
        try (var files = Files.list(Path.of("src/test/java"))) {
            for (Path file : files.sorted().toList()) {
                String name = file.getFileName().toString().replace(".java", "");
                if (name.endsWith("Test")) {
                    check.due("README names " + name, readme.contains("`" + name + "`"));
                }
            }
        }
    }
}
