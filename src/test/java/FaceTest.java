import java.lang.reflect.Constructor;
import java.lang.reflect.Field;
import java.lang.reflect.Method;
import java.lang.reflect.Modifier;
import java.util.ArrayList;
import java.util.Arrays;
import java.util.List;
import java.util.TreeSet;

/** "The public face": all of it, and nothing beside it that another class could see. */
public final class FaceTest {
    private static final List<String> METHODS = List.of(
            "int feed(int, int, int, int, int)", "int end(int)", "int custom()", "int fault(int)",
            "int house()", "boolean shape(int, int, int)", "boolean glaze(int, int)",
            "boolean kiln(int)", "boolean value(int, int, int)", "int pot(int, int, int, int)",
            "boolean dry(int)", "int deal()", "int spread()", "int fire(int, int)",
            "int rest(int)", "int heat(int)", "int open()", "int about(int, int)",
            "int at(int, int)", "int tell(int, int)", "int order(int, int, int, int)",
            "boolean inTime(int, int)", "boolean forget(int)", "int count(int)",
            "boolean image(int)", "boolean again(int)");

    public static void main(String[] args) {
        classIsPublicAndFinal();
        oneConstructor();
        methodsAreThoseOfTheDocument();
        oneConstant();
        noPrivateMethodBearsAPublicName();
        staticFieldsAreFinal();
        Checks.finish();
    }

    private static void classIsPublicAndFinal() {
        int modifiers = KilnVillage.class.getModifiers();
        Checks.due("the class is public", Modifier.isPublic(modifiers), true);
        Checks.due("the class is final", Modifier.isFinal(modifiers), true);
        Checks.due("it is above none but Object", KilnVillage.class.getSuperclass() == Object.class, true);
        Checks.due("its interfaces", KilnVillage.class.getInterfaces().length, 0);
    }

    private static void oneConstructor() {
        Constructor<?>[] all = KilnVillage.class.getDeclaredConstructors();
        Checks.due("constructors", all.length, 1);
        Checks.due("the constructor is public", Modifier.isPublic(all[0].getModifiers()), true);
        Checks.due("its parameters", all[0].getParameterCount(), 0);
    }

    private static void methodsAreThoseOfTheDocument() {
        TreeSet<String> seen = new TreeSet<>();
        for (Method method : KilnVillage.class.getDeclaredMethods()) {
            int modifiers = method.getModifiers();
            if (!Modifier.isPrivate(modifiers) && !method.isSynthetic()) {
                Checks.due(method + " is public", Modifier.isPublic(modifiers), true);
                Checks.due(method + " is static", Modifier.isStatic(modifiers), false);
                Checks.due("exceptions of " + method, method.getExceptionTypes().length, 0);
                seen.add(said(method));
            }
        }
        for (String method : METHODS) {
            Checks.due("there is " + method, seen.contains(method), true);
        }
        for (String method : seen) {
            Checks.due("the document has " + method, METHODS.contains(method), true);
        }
    }

    private static String said(Method method) {
        List<String> types = new ArrayList<>();
        for (Class<?> type : method.getParameterTypes()) {
            types.add(type.getSimpleName());
        }
        return method.getReturnType().getSimpleName() + " " + method.getName() + "(" + String.join(", ", types) + ")";
    }

    /** "The constants: NONE = -1" */
    private static void oneConstant() {
        for (Field field : KilnVillage.class.getDeclaredFields()) {
            boolean none = field.getName().equals("NONE");
            Checks.due(field + " is public", Modifier.isPublic(field.getModifiers()), none);
            Checks.due(field + " is private", Modifier.isPrivate(field.getModifiers()), !none);
        }
        Checks.due("NONE", KilnVillage.NONE, -1);
    }

    private static List<Class<?>> allClasses() {
        List<Class<?>> all = new ArrayList<>(Arrays.asList(KilnVillage.class.getDeclaredClasses()));
        all.add(KilnVillage.class);
        return all;
    }

    private static void noPrivateMethodBearsAPublicName() {
        TreeSet<String> names = new TreeSet<>();
        for (String method : METHODS) {
            names.add(method.substring(method.indexOf(' ') + 1, method.indexOf('(')));
        }
        for (Class<?> one : allClasses()) {
            for (Method method : one.getDeclaredMethods()) {
                if (Modifier.isPrivate(method.getModifiers())) {
                    Checks.due(method + " bears a public name", names.contains(method.getName()), false);
                }
            }
        }
    }

    private static void staticFieldsAreFinal() {
        for (Class<?> one : allClasses()) {
            for (Field field : one.getDeclaredFields()) {
                if (Modifier.isStatic(field.getModifiers()) && !field.isSynthetic()) {
                    Checks.due(field + " is final", Modifier.isFinal(field.getModifiers()), true);
                }
            }
        }
    }
}
