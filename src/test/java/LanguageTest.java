import java.io.IOException;
import java.nio.file.Files;
import java.nio.file.Path;
import java.util.regex.Pattern;

// The rules of LANGUAGE.md that the words of the source can show. Run from the project's root.
public final class LanguageTest {
    private static final Path SOURCE = Path.of("src/main/java/ShapeRing.java");
    private static final String[] FORBIDDEN_WORDS = {
        "package", "import", "float", "double", "String", "Object", "Math", "Integer", "System",
        "Arrays", "null", "throw", "throws", "try", "catch", "finally", "synchronized", "assert",
        "instanceof", "interface", "enum", "record", "protected", "var", "native", "Override"
    };
    private static final String[] FORBIDDEN_SIGNS = {"->", "::", "\"", "@", "[][]"};

    public static void main(String[] args) throws IOException {
        Check check = new Check();
        String source = Files.readString(SOURCE).replaceAll("//[^\n]*", "");
        for (String word : FORBIDDEN_WORDS) {
            boolean found = Pattern.compile("\\b" + word + "\\b").matcher(source).find();
            check.due("the word " + word, !found);
        }
        for (String sign : FORBIDDEN_SIGNS) {
            check.due("the sign " + sign, !source.contains(sign));
        }
        for (String line : source.split("\n")) {
            if (line.contains("new ")) {
                check.due("an array made elsewhere than for a field:" + line,
                    line.matches(" {4}private final int\\[] \\w+ = new int\\[[A-Z]+];"));
            }
        }
        check.end("LanguageTest");
    }
}
