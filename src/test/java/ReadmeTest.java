import java.io.IOException;
import java.lang.reflect.Field;
import java.lang.reflect.Method;
import java.lang.reflect.Modifier;
import java.nio.file.Files;
import java.nio.file.Path;
import java.util.regex.Matcher;
import java.util.regex.Pattern;

/** The example in README.md answers what it says there, and README.md names the whole face. */
public final class ReadmeTest {
    private final String readme;
    private final String example;
    private int linesFound;
    private int from;

    private ReadmeTest(String readme) {
        this.readme = readme;
        Matcher block = Pattern.compile("(?s)```java\n(.*?)```").matcher(readme);
        this.example = block.find() ? block.group(1) : "";
    }

    public static void main(String[] args) throws IOException {
        ReadmeTest test = new ReadmeTest(Files.readString(Path.of("README.md")));
        test.runExample();
        test.namesTheFace();
        Check.end();
    }

    private void runExample() {
        Check.isTrue("the example begins with a new object",
            example.startsWith("BitBlaster x = new BitBlaster(4);"));
        BitBlaster x = new BitBlaster(4);
        int a = says("int a = x.variable(0);", x.variable(0));
        int b = says("int b = x.variable(1);", x.variable(1));
        int product = says("int product = x.combine(BitBlaster.MUL, a, b);",
            x.combine(BitBlaster.MUL, a, b));
        int twelve = says("int twelve = x.constant(12);", x.constant(12));
        int equal = says("int equal = x.compare(BitBlaster.EQUAL, product, twelve);",
            x.compare(BitBlaster.EQUAL, product, twelve));
        says("x.require(equal, 1);", x.require(equal, 1));
        says("x.count();", x.count());
        says("x.next(-1);", x.next(-1));
        says("x.next(448);", x.next(448));
        says("x.least(a);", x.least(a));
        says("x.greatest(a);", x.greatest(a));
        int less = says("int less = x.compare(BitBlaster.LESS, a, b);", x.compare(BitBlaster.LESS, a, b));
        says("x.follows(less);", x.follows(less));
        says("x.valueOf(product, 448);", x.valueOf(product, 448));
        says("x.release();", x.release());
        says("x.count();", x.count());
        says("x.variable(3);", x.variable(3));
        Check.due("lines of the example, but for the first", example.lines().count() - 1, linesFound);
    }

    /** The example's next line is this statement, and the remark behind it begins with the answer. */
    private int says(String statement, int answer) {
        String pattern = "(?m)^" + Pattern.quote(statement) + " *// (-?\\d+)\\b";
        Matcher line = Pattern.compile(pattern).matcher(example);
        boolean found = line.find(from);
        Check.isTrue("the example goes on with " + statement, found);
        if (found) {
            Check.due(statement + " in README.md", answer, Integer.parseInt(line.group(1)));
            linesFound++;
            from = line.end();
        }
        return answer;
    }

    private void namesTheFace() {
        for (Method method : BitBlaster.class.getDeclaredMethods()) {
            if (Modifier.isPublic(method.getModifiers())) {
                String parameters = "(\\w+(, )?){" + method.getParameterCount() + "}";
                String named = "`" + method.getName() + "\\(" + parameters + "\\)`";
                Check.isTrue("README.md names " + method, Pattern.compile(named).matcher(readme).find());
            }
        }
        for (Field field : BitBlaster.class.getDeclaredFields()) {
            if (Modifier.isPublic(field.getModifiers())) {
                Check.isTrue("README.md names " + field, readme.contains("`" + field.getName() + "`"));
            }
        }
    }
}
