import java.lang.reflect.Constructor;
import java.lang.reflect.Field;
import java.lang.reflect.Method;
import java.lang.reflect.Modifier;
import java.util.Set;
import java.util.TreeSet;

/** The public face of the document, and nothing else that can be seen from outside. */
public final class FaceTest {
    private static final Due CHECK = new Due("FaceTest");

    private static final Set<String> METHODS = Set.of(
            "int source(int)", "int target(int)", "int quote(int,int)", "int change(int,int)",
            "int accept()", "void clearSource()", "void clearTarget()", "int lengths()",
            "int pieces()", "int pieceLength(int)", "int pieceFrom(int)", "int fewest()",
            "int cheapest(int,int)", "int occurrences(int,int)", "int longest()",
            "int longestAt()", "int words()", "int wordsOf(int)", "int shortestAbsent()",
            "int longestRepeat()");

    public static void main(String[] args) {
        CHECK.holds("the class is public and final and has no other modifier",
                CopyAddDelta.class.getModifiers() == (Modifier.PUBLIC | Modifier.FINAL));
        CHECK.holds("no nested class", CopyAddDelta.class.getDeclaredClasses().length == 0);
        constants();
        constructor();
        methods();
        CHECK.end();
    }

    private static void constants() {
        CHECK.due("BAD_ARG", CopyAddDelta.BAD_ARG, -1);
        CHECK.due("FULL", CopyAddDelta.FULL, -2);
        CHECK.due("NONE", CopyAddDelta.NONE, -4);
        Set<String> seen = new TreeSet<>();
        for (Field field : CopyAddDelta.class.getDeclaredFields()) {
            if (!Modifier.isPrivate(field.getModifiers())) {
                seen.add(Modifier.toString(field.getModifiers()) + " " + field.getType() + " " + field.getName());
            }
        }
        CHECK.holds("the constants alone can be seen: " + seen, seen.equals(Set.of(
                "public static final int BAD_ARG", "public static final int FULL",
                "public static final int NONE")));
    }

    private static void constructor() {
        Constructor<?>[] all = CopyAddDelta.class.getDeclaredConstructors();
        CHECK.due("number of constructors", all.length, 1);
        CHECK.due("parameters of the constructor", all[0].getParameterCount(), 0);
        CHECK.holds("the constructor is public", Modifier.isPublic(all[0].getModifiers()));
    }

    private static void methods() {
        Set<String> seen = new TreeSet<>();
        for (Method method : CopyAddDelta.class.getDeclaredMethods()) {
            if (!Modifier.isPrivate(method.getModifiers())) {
                CHECK.holds(method + " is public and has no other modifier",
                        method.getModifiers() == Modifier.PUBLIC);
                seen.add(signature(method));
            }
        }
        CHECK.holds("the methods of the document alone can be seen: " + seen, seen.equals(METHODS));
    }

    private static String signature(Method method) {
        StringBuilder text = new StringBuilder();
        for (Class<?> type : method.getParameterTypes()) {
            text.append(text.length() == 0 ? "" : ",").append(type.getName());
        }
        return method.getReturnType().getName() + " " + method.getName() + "(" + text + ")";
    }
}
