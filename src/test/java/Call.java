import java.lang.reflect.InvocationTargetException;
import java.lang.reflect.Method;
import java.util.Arrays;
import java.util.Map;
import java.util.TreeMap;

/** Calls by their names, on an object of the class or of the plain one; every argument is an int. */
final class Call {
    static final String NOTHING = "nothing";

    private static final Map<String, Method> KNOWN = new TreeMap<>();

    private Call() {
    }

    /** The answer as text, or the name of the exception. */
    static String answer(Object face, String name, int... arguments) {
        try {
            Object answer = method(face.getClass(), name).invoke(face, Arrays.stream(arguments).boxed().toArray());
            return answer == null ? NOTHING : answer.toString();
        } catch (InvocationTargetException e) {
            return e.getCause().getClass().getSimpleName();
        } catch (IllegalAccessException e) {
            throw new IllegalStateException(e);
        }
    }

    static String text(String name, int... arguments) {
        String list = Arrays.toString(arguments);
        return name + "(" + list.substring(1, list.length() - 1) + ")";
    }

    /** How many arguments a call takes. */
    static int arguments(String name) {
        return method(DroppedPieces.class, name).getParameterCount();
    }

    private static Method method(Class<?> face, String name) {
        return KNOWN.computeIfAbsent(face.getName() + "." + name, key -> Arrays.stream(face.getMethods())
                .filter(m -> m.getDeclaringClass() == face && m.getName().equals(name)).findFirst().orElseThrow());
    }
}
