import java.lang.reflect.Constructor;
import java.lang.reflect.Field;
import java.lang.reflect.Method;
import java.lang.reflect.Modifier;
import java.util.Arrays;
import java.util.Set;
import java.util.TreeSet;

/** The public face of the document, and the rules of LANGUAGE.md that the compiled class shows. */
public final class FaceTest {
    private static final Set<String> METHODS = new TreeSet<>(Arrays.asList(
        "int step(int,int,int)", "int drop()", "int length()", "int answers()", "int value(int,int)",
        "int countWith(int,int)", "int firstWith(int,int)", "int extreme(int,int)", "int ways(int)"));
    private static final Set<String> CONSTANTS = new TreeSet<>(Arrays.asList("NONE", "BAD", "FULL"));

    public static void main(String[] args) throws Exception {
        theClass();
        theConstructor();
        theMethods();
        theFields();
        theConstants();
        Checks.end("FaceTest");
    }

    private static void theClass() {
        int modifiers = SearchMachine.class.getModifiers();
        Checks.holds("public class", Modifier.isPublic(modifiers));
        Checks.holds("final class", Modifier.isFinal(modifiers));
        Checks.holds("no package", SearchMachine.class.getPackageName().isEmpty());
        Checks.holds("no superclass", SearchMachine.class.getSuperclass() == Object.class);
        Checks.due("interfaces", SearchMachine.class.getInterfaces().length, 0);
        Checks.due("nested classes", SearchMachine.class.getDeclaredClasses().length, 0);
    }

    private static void theConstructor() {
        Constructor<?>[] all = SearchMachine.class.getDeclaredConstructors();
        Checks.due("constructors", all.length, 1);
        Checks.due("constructor's parameters", all[0].getParameterCount(), 0);
        Checks.holds("public constructor", Modifier.isPublic(all[0].getModifiers()));
    }

    private static void theMethods() {
        Set<String> publicOnes = new TreeSet<>();
        Set<String> publicNames = new TreeSet<>();
        for (Method method : SearchMachine.class.getDeclaredMethods()) {
            if (Modifier.isPublic(method.getModifiers())) {
                Checks.holds(method + " is not static", !Modifier.isStatic(method.getModifiers()));
                publicOnes.add(told(method));
                publicNames.add(method.getName());
            }
        }
        Checks.holds("public methods are " + METHODS + ", not " + publicOnes, publicOnes.equals(METHODS));
        for (Method method : SearchMachine.class.getDeclaredMethods()) {
            Checks.holds(method + " has at most seven parameters", method.getParameterCount() <= 7);
            if (!Modifier.isPublic(method.getModifiers())) {
                Checks.holds(method + " is private", Modifier.isPrivate(method.getModifiers()));
                Checks.holds(method + " has a name of its own", !publicNames.contains(method.getName()));
            }
        }
    }

    private static String told(Method method) {
        StringBuilder text = new StringBuilder(method.getReturnType() + " " + method.getName() + "(");
        String comma = "";
        for (Class<?> type : method.getParameterTypes()) {
            text.append(comma).append(type);
            comma = ",";
        }
        return text.append(")").toString();
    }

    private static void theFields() {
        Set<String> publicOnes = new TreeSet<>();
        for (Field field : SearchMachine.class.getDeclaredFields()) {
            int modifiers = field.getModifiers();
            if (Modifier.isPublic(modifiers)) {
                Checks.holds(field + " is a constant int", Modifier.isStatic(modifiers)
                    && Modifier.isFinal(modifiers) && field.getType() == int.class);
                publicOnes.add(field.getName());
            } else {
                Checks.holds(field + " is private", Modifier.isPrivate(modifiers));
            }
            if (Modifier.isStatic(modifiers)) {
                Checks.holds(field + " is final", Modifier.isFinal(modifiers));
                Checks.holds(field + " is int or long", field.getType() == int.class || field.getType() == long.class);
            }
        }
        Checks.holds("public fields are " + CONSTANTS + ", not " + publicOnes, publicOnes.equals(CONSTANTS));
    }

    private static void theConstants() {
        Checks.due("NONE", SearchMachine.NONE, -1000000000);
        Checks.due("BAD", SearchMachine.BAD, -1);
        Checks.due("FULL", SearchMachine.FULL, -2);
    }
}
