import java.lang.reflect.Constructor;
import java.lang.reflect.Method;
import java.lang.reflect.Modifier;
import java.util.Set;
import java.util.TreeSet;

/** The public face is the document's, with its throws clauses, and nothing else can be seen. */
public final class FaceTest {
    private static final String STATE = " throws IllegalStateException";
    private static final String ARGUMENT = " IllegalArgumentException";
    private static final String INDEX = " IndexOutOfBoundsException";

    private static final Set<String> DUE = Set.of(
            "void begin()", "void clear()", "int put(int int)" + STATE + INDEX + ARGUMENT,
            "void give(int int int)" + STATE + ARGUMENT, "void start(int)" + STATE + ARGUMENT,
            "int at(int) throws" + INDEX, "int hand(int int)", "int player()", "boolean reaches(int int)",
            "boolean inCheck(int)", "int moves()" + STATE, "int move(int)" + STATE + INDEX,
            "boolean isLegal(int)" + STATE, "int result()" + STATE, "int times()" + STATE,
            "int play(int)" + STATE + ARGUMENT, "int back()" + STATE + " NoSuchElementException", "int made()",
            "int count(int)" + STATE + ARGUMENT, "int mate()" + STATE);

    public static void main(String[] args) {
        Set<String> seen = new TreeSet<>();
        for (Method m : DroppedPieces.class.getDeclaredMethods()) {
            if (!Modifier.isPrivate(m.getModifiers()) && !m.isSynthetic()) {
                Check.same(m + " is public, and nothing else", Modifier.toString(m.getModifiers()), "public");
                seen.add(text(m));
            }
        }
        Check.yes("the face is " + seen, seen.equals(DUE));
        Check.same("the class", Modifier.toString(DroppedPieces.class.getModifiers()), "public final");
        Check.same("its superclass", DroppedPieces.class.getSuperclass().getName(), "java.lang.Object");
        Check.same("interfaces", DroppedPieces.class.getInterfaces().length, 0);
        Check.same("public classes inside", DroppedPieces.class.getClasses().length, 0);
        Check.same("visible fields", visibleFields(), 0);
        Constructor<?>[] made = DroppedPieces.class.getDeclaredConstructors();
        Check.yes("one public constructor", made.length == 1 && Modifier.isPublic(made[0].getModifiers())
                && made[0].getParameterCount() == 0 && made[0].getExceptionTypes().length == 0);
        Check.end();
    }

    private static long visibleFields() {
        return java.util.Arrays.stream(DroppedPieces.class.getDeclaredFields())
                .filter(f -> !Modifier.isPrivate(f.getModifiers())).count();
    }

    private static String text(Method m) {
        StringBuilder all = new StringBuilder(m.getReturnType().getName() + " " + m.getName() + "(");
        for (int k = 0; k < m.getParameterCount(); k++) {
            all.append(k == 0 ? "" : " ").append(m.getParameterTypes()[k].getName());
        }
        all.append(")");
        for (int k = 0; k < m.getExceptionTypes().length; k++) {
            all.append(k == 0 ? " throws " : " ").append(m.getExceptionTypes()[k].getSimpleName());
        }
        return all.toString();
    }
}
