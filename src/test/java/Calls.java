import java.lang.reflect.Method;
import java.lang.reflect.Modifier;
import java.util.StringJoiner;

/** Calls told by name and arguments, so that a test can stand in a row, and tells itself when it fails. */
public final class Calls {
    private Calls() {
    }

    static String row(String name, Object... all) {
        StringJoiner told = new StringJoiner(", ", name + "(", ")");
        for (Object one : all) {
            told.add(String.valueOf(one));
        }
        return told.toString();
    }

    /** Each name of the face is there once. */
    static long answer(WindowRounds w, String name, Object... all) {
        for (Method method : WindowRounds.class.getDeclaredMethods()) {
            if (Modifier.isPublic(method.getModifiers()) && method.getName().equals(name)) {
                return answer(w, method, all);
            }
        }
        throw new IllegalArgumentException(name);
    }

    private static long answer(WindowRounds w, Method method, Object... all) {
        Object[] given = all.clone();
        for (int i = 0; i < given.length; i++) {
            if (method.getParameterTypes()[i] == long.class) {
                given[i] = ((Number) given[i]).longValue();
            }
        }
        try {
            return ((Number) method.invoke(w, given)).longValue();
        } catch (ReflectiveOperationException e) {
            throw new IllegalStateException(row(method.getName(), all), e);
        }
    }

    static void due(WindowRounds w, long want, String name, Object... all) {
        Check.due(row(name, all), answer(w, name, all), want);
    }
}
