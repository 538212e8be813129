import java.lang.reflect.Constructor;
import java.lang.reflect.Field;
import java.lang.reflect.Method;
import java.lang.reflect.Modifier;
import java.util.Set;
import java.util.TreeSet;

// The class has the document's face, and nothing else of it can be seen from outside.
public final class FaceTest {
    private static final Set<String> METHODS = Set.of(
        "add/3", "scale/2", "combine/1", "swap/0", "timesShape/2", "timesPower/2", "product/0",
        "skew/2", "part/2", "coefficient/2", "degree/1", "shapes/1", "monomial/4", "value/4",
        "inner/0", "number/3");

    private final Check check = new Check();

    public static void main(String[] args) {
        FaceTest test = new FaceTest();
        test.constants();
        test.classItself();
        test.methods();
        test.fields();
        test.check.end("FaceTest");
    }

    private void constants() {
        check.due("BAD_ARG", ShapeRing.BAD_ARG, -1);
        check.due("FULL", ShapeRing.FULL, -2);
        check.due("NONE", ShapeRing.NONE, -4);
    }

    private void classItself() {
        int modifiers = ShapeRing.class.getModifiers();
        check.due("public", Modifier.isPublic(modifiers));
        check.due("final", Modifier.isFinal(modifiers));
        check.due("nested classes", ShapeRing.class.getDeclaredClasses().length, 0);
        Constructor<?>[] constructors = ShapeRing.class.getDeclaredConstructors();
        check.due("constructors", constructors.length, 1);
        check.due("public constructor", Modifier.isPublic(constructors[0].getModifiers()));
        check.due("constructor's parameters", constructors[0].getParameterCount(), 0);
    }

    private void methods() {
        Set<String> open = new TreeSet<>();
        Set<String> openNames = new TreeSet<>();
        for (Method method : ShapeRing.class.getDeclaredMethods()) {
            if (!Modifier.isPrivate(method.getModifiers())) {
                open.add(method.getName() + "/" + method.getParameterCount());
                openNames.add(method.getName());
                check.due(method + " is public", Modifier.isPublic(method.getModifiers()));
                check.due(method + " is not static", !Modifier.isStatic(method.getModifiers()));
                check.due(method + " answers int", method.getReturnType() == int.class);
                for (Class<?> type : method.getParameterTypes()) {
                    check.due(method + " takes ints", type == int.class);
                }
            }
        }
        check.due("public methods " + open, open.equals(METHODS));
        for (Method method : ShapeRing.class.getDeclaredMethods()) {
            if (Modifier.isPrivate(method.getModifiers())) {
                check.due(method + " has its own name", !openNames.contains(method.getName()));
            }
        }
    }

    private void fields() {
        Set<String> open = new TreeSet<>();
        for (Field field : ShapeRing.class.getDeclaredFields()) {
            if (!Modifier.isPrivate(field.getModifiers())) {
                open.add(field.getName());
            }
            if (Modifier.isStatic(field.getModifiers())) {
                check.due(field + " is a constant number", field.getType() == int.class
                    && Modifier.isFinal(field.getModifiers()));
            }
        }
        check.due("public fields " + open, open.equals(Set.of("BAD_ARG", "FULL", "NONE")));
    }
}
