import java.io.IOException;
import java.nio.file.Files;
import java.nio.file.Path;
import java.util.regex.Matcher;
import java.util.regex.Pattern;

/** The rules of LANGUAGE.md that the program's text alone shows; FaceTest has those of its members. */
public final class LanguageTest {
    private static final String[] RULED_OUT = {
        "package", "import", "interface", "enum", "extends", "implements",
        "float", "double", "String", "Math", "Integer", "Long", "System", "Arrays", "Object",
        "null", "throw", "throws", "try", "catch", "finally", "synchronized", "assert",
        "instanceof", "equals", "hashCode", "toString", "getClass", "clone", "notify", "wait",
    };

    public static void main(String[] args) throws IOException {
        String source = Files.readString(Path.of("src/main/java/BitBlaster.java"));
        String code = source.replaceAll("(?s)/\\*.*?\\*/", " ").replaceAll("//[^\n]*", " ");
        for (String word : RULED_OUT) {
            Check.isTrue("the program is without " + word, !found(code, "\\b" + word + "\\b"));
        }
        Check.isTrue("no text", code.indexOf('"') < 0);
        // The arrow of a switch is no lambda.
        Check.isTrue("no lambda", !code.replaceAll("\\b(case [^:;{}]*?|default *)->", " ").contains("->"));
        Check.isTrue("no method reference", !code.contains("::"));
        Check.isTrue("no static initialiser", !found(code, "\\bstatic\\s*\\{"));
        Check.isTrue("one class", count(code, "\\bclass\\b") == 1);
        Check.isTrue("arrays of one dimension", !found(code, "\\]\\s*\\["));
        Check.isTrue("only arrays of number types are made, for fields, of literal or constant length",
            count(code, "\\bnew\\b") == count(code,
                "(private (final )?\\w+\\[\\] |[{};]\\s*(this\\.)?)\\w+ = "
                    + "new (int|long|short|byte|char|boolean)\\[[A-Z0-9_]+\\];"));
        Check.end();
    }

    private static boolean found(String text, String pattern) {
        return count(text, pattern) > 0;
    }

    private static int count(String text, String pattern) {
        Matcher matcher = Pattern.compile(pattern).matcher(text);
        int times = 0;
        while (matcher.find()) {
            times++;
        }
        return times;
    }
}
