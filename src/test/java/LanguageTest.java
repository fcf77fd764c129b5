import java.lang.reflect.Field;
import java.lang.reflect.Method;
import java.lang.reflect.Modifier;
import java.util.HashSet;
import java.util.List;
import java.util.Set;

/** What of LANGUAGE.md can be seen from the compiled class: parts of its rules 1, 2, 4, 5, 6 and 10. */
public final class LanguageTest {
    private static final Due CHECK = new Due("LanguageTest");
    private static final List<Class<?>> NUMBERS =
            List.of(int.class, long.class, short.class, byte.class, char.class, boolean.class);

    public static void main(String[] args) {
        oneClass();
        noPrivateMethodBearsAPublicName();
        typesOfFields();
        typesOfMethods();
        staticFieldsAreConstants();
        arraysOfEachObject();
        fewFieldsAndParameters();
        CHECK.end();
    }

    /** Rule 1: "One class", "without a package line"; rules 2 and 3: it stands on no other class. */
    private static void oneClass() {
        Class<?> it = CopyAddDelta.class;
        CHECK.holds("it has no package", it.getPackageName().isEmpty());
        CHECK.holds("it extends nothing", it.getSuperclass() == Object.class);
        CHECK.holds("it implements nothing", it.getInterfaces().length == 0);
        CHECK.holds("it has no type parameter", it.getTypeParameters().length == 0);
        CHECK.holds("it has no annotation", it.getDeclaredAnnotations().length == 0);
    }

    /** Rule 1: "No private method bears the name of a public one." */
    private static void noPrivateMethodBearsAPublicName() {
        Set<String> names = new HashSet<>();
        for (Method method : CopyAddDelta.class.getMethods()) {
            names.add(method.getName());
        }
        for (Method method : CopyAddDelta.class.getDeclaredMethods()) {
            CHECK.holds(method + " has a name of its own",
                    Modifier.isPublic(method.getModifiers()) || !names.contains(method.getName()));
            // A lambda would show as a method that the compiler made (rule 6).
            CHECK.holds(method + " was written", !method.isSynthetic());
        }
    }

    /** Rule 2, of fields. */
    private static void typesOfFields() {
        for (Field field : CopyAddDelta.class.getDeclaredFields()) {
            CHECK.holds(field + " is a number or a row of numbers", isNumberOrRow(field.getType()));
        }
    }

    /** Rules 2, 4 and 6, of methods: "An array is never answered by a method". */
    private static void typesOfMethods() {
        for (Method method : CopyAddDelta.class.getDeclaredMethods()) {
            Class<?> answer = method.getReturnType();
            CHECK.holds(method + " answers a number or nothing", answer == void.class || NUMBERS.contains(answer));
            for (Class<?> parameter : method.getParameterTypes()) {
                CHECK.holds(method + " takes numbers or rows of them", isNumberOrRow(parameter));
            }
            CHECK.holds(method + " isn't synchronized", !Modifier.isSynchronized(method.getModifiers()));
            CHECK.due(method + ", exceptions named", method.getExceptionTypes().length, 0);
        }
    }

    private static boolean isNumberOrRow(Class<?> type) {
        return NUMBERS.contains(type) || type.isArray() && NUMBERS.contains(type.getComponentType());
    }

    /** Rule 5: "Static fields are compile-time constants of int or long alone." */
    private static void staticFieldsAreConstants() {
        for (Field field : CopyAddDelta.class.getDeclaredFields()) {
            if (Modifier.isStatic(field.getModifiers())) {
                CHECK.holds(field + " is final", Modifier.isFinal(field.getModifiers()));
                CHECK.holds(field + " is an int or a long",
                        field.getType() == int.class || field.getType() == long.class);
            }
        }
    }

    /** Rule 4: "no method assigns to an array field": a final one can't be. */
    private static void arraysOfEachObject() {
        for (Field field : CopyAddDelta.class.getDeclaredFields()) {
            CHECK.holds(field + ", if it is an array, is final",
                    !field.getType().isArray() || Modifier.isFinal(field.getModifiers()));
        }
    }

    /** Rule 10: "at most seven parameters", "at most some forty fields beside its constants". */
    private static void fewFieldsAndParameters() {
        int fields = 0;
        for (Field field : CopyAddDelta.class.getDeclaredFields()) {
            if (!Modifier.isStatic(field.getModifiers())) {
                fields++;
            }
        }
        CHECK.holds(fields + " fields are few", fields <= 40);
        for (Method method : CopyAddDelta.class.getDeclaredMethods()) {
            CHECK.holds(method + " has few parameters", method.getParameterCount() <= 7);
        }
    }
}
