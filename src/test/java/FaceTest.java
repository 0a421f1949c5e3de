import java.lang.reflect.Constructor;
import java.lang.reflect.Field;
import java.lang.reflect.Method;
import java.lang.reflect.Modifier;
import java.util.Arrays;
import java.util.Set;
import java.util.TreeSet;

/** The class shows the members of the document's face and no other. */
public final class FaceTest {
    private static final Set<String> FACE = new TreeSet<>(Arrays.asList(
        "public static final int ADD = 0",
        "public static final int SUB = 1",
        "public static final int MUL = 2",
        "public static final int AND = 3",
        "public static final int OR = 4",
        "public static final int XOR = 5",
        "public static final int EQUAL = 0",
        "public static final int LESS = 1",
        "public static final int SIGNED_LESS = 2",
        "public BitBlaster(int)",
        "public int BitBlaster.width()",
        "public int BitBlaster.variable(int)",
        "public int BitBlaster.constant(int)",
        "public int BitBlaster.combine(int,int,int)",
        "public int BitBlaster.invert(int)",
        "public int BitBlaster.shift(int,int)",
        "public int BitBlaster.choose(int,int,int)",
        "public int BitBlaster.compare(int,int,int)",
        "public int BitBlaster.connect(int,int,int)",
        "public int BitBlaster.require(int,int)",
        "public int BitBlaster.release()",
        "public int BitBlaster.terms()",
        "public int BitBlaster.tests()",
        "public int BitBlaster.valueOf(int,int)",
        "public int BitBlaster.holds(int,int)",
        "public int BitBlaster.solvable()",
        "public int BitBlaster.next(int)",
        "public int BitBlaster.count()",
        "public int BitBlaster.least(int)",
        "public int BitBlaster.greatest(int)",
        "public int BitBlaster.follows(int)",
        "public int BitBlaster.same(int,int)"));

    public static void main(String[] args) throws IllegalAccessException {
        Set<String> shown = new TreeSet<>();
        Set<String> publicNames = new TreeSet<>();
        Set<String> privateNames = new TreeSet<>();
        for (Field field : BitBlaster.class.getDeclaredFields()) {
            boolean isPrivate = Modifier.isPrivate(field.getModifiers());
            if (!isPrivate) {
                shown.add(Modifier.toString(field.getModifiers()) + " " + field.getType()
                    + " " + field.getName() + " = " + field.get(null));
            }
            if (Modifier.isStatic(field.getModifiers())) {
                Check.isTrue(field + " is a constant int or long",
                    Modifier.isFinal(field.getModifiers())
                        && (field.getType() == int.class || field.getType() == long.class));
            }
        }
        for (Constructor<?> constructor : BitBlaster.class.getDeclaredConstructors()) {
            shown.add(constructor.toString());
        }
        for (Method method : BitBlaster.class.getDeclaredMethods()) {
            if (Modifier.isPrivate(method.getModifiers())) {
                privateNames.add(method.getName());
            } else {
                publicNames.add(method.getName());
                shown.add(method.toString());
            }
        }
        Check.isTrue("the face is " + FACE + ", shown is " + shown, shown.equals(FACE));
        privateNames.retainAll(publicNames);
        Check.isTrue("no private method bears a public name: " + privateNames, privateNames.isEmpty());
        Check.due("modifiers", BitBlaster.class.getModifiers(), Modifier.PUBLIC | Modifier.FINAL);
        Check.due("nested classes", BitBlaster.class.getDeclaredClasses().length, 0);
        Check.isTrue("no package", BitBlaster.class.getPackageName().isEmpty());
        Check.end();
    }
}
