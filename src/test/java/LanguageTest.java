import java.lang.reflect.Constructor;
import java.lang.reflect.Executable;
import java.lang.reflect.Field;
import java.lang.reflect.Method;
import java.lang.reflect.Modifier;
import java.nio.file.Files;
import java.nio.file.Path;
import java.util.Arrays;
import java.util.Set;
import java.util.TreeSet;
import java.util.regex.Matcher;
import java.util.regex.Pattern;

/** The face as the document has it, and what LANGUAGE.md says of classes and fields, by the class as it is compiled. */
public final class LanguageTest {
    private static final Path DOCUMENT = Path.of("../shared/DOC.md");

    private LanguageTest() {
    }

    public static void main(String[] args) throws Exception {
        face();
        constants();
        classes();
        Check.end("LanguageTest");
    }

    /** Each line of the document's block against the class, and nothing besides. */
    private static void face() throws Exception {
        String document = Files.readString(DOCUMENT);
        int from = document.indexOf("```java");
        String block = document.substring(from, document.indexOf("```", from + 3));
        Set<String> due = new TreeSet<>();
        Matcher m = Pattern.compile("public (int|long) (\\w+)\\(([^)]*)\\);").matcher(block);
        while (m.find()) {
            due.add(m.group(1) + " " + m.group(2) + "(" + m.group(3).replaceAll("(\\w+) \\w+", "$1") + ")");
        }
        Set<String> got = new TreeSet<>();
        Set<String> own = new TreeSet<>();
        for (Method method : WindowRounds.class.getDeclaredMethods()) {
            boolean isPublic = Modifier.isPublic(method.getModifiers());
            if (isPublic) {
                got.add(signature(method));
            } else {
                own.add(method.getName());
                Check.holds("private: " + method, Modifier.isPrivate(method.getModifiers()));
            }
        }
        Check.due("how many methods the face has", due.size(), 45);
        Check.holds("the face is " + due + " but not " + got, due.equals(got));
        for (String signature : got) {
            Check.holds("its own name: " + signature, !own.contains(signature.replaceAll(".* |\\(.*", "")));
        }
        int modifiers = WindowRounds.class.getModifiers();
        Check.holds("public and final", Modifier.isPublic(modifiers) && Modifier.isFinal(modifiers));
        Constructor<?>[] made = WindowRounds.class.getDeclaredConstructors();
        Check.holds("one constructor", made.length == 1 && made[0].getParameterCount() == 0
                && Modifier.isPublic(made[0].getModifiers()));
    }

    private static String signature(Method method) {
        StringBuilder b = new StringBuilder(method.getReturnType() + " " + method.getName() + "(");
        Class<?>[] types = method.getParameterTypes();
        for (int i = 0; i < types.length; i++) {
            b.append(i > 0 ? ", " : "").append(types[i]);
        }
        return b.append(")").toString();
    }

    private static void constants() {
        Check.due("NONE", WindowRounds.NONE, -1);
        Check.due("BAD", WindowRounds.BAD, -2);
        Check.due("STATE", WindowRounds.STATE, -3);
        Check.due("FULL", WindowRounds.FULL, -4);
        Check.due("NO", WindowRounds.NO, Long.MIN_VALUE);
        Set<String> open = new TreeSet<>();
        for (Field field : WindowRounds.class.getDeclaredFields()) {
            if (!Modifier.isPrivate(field.getModifiers())) {
                open.add(field.getName());
            }
        }
        Check.holds("just these: " + open, open.equals(Set.of("NONE", "BAD", "STATE", "FULL", "NO")));
    }

    private static void classes() {
        Class<?>[] inside = WindowRounds.class.getDeclaredClasses();
        Check.holds("some twelve classes", inside.length < 12);
        check(WindowRounds.class);
        for (Class<?> c : inside) {
            Check.holds("static: " + c, Modifier.isStatic(c.getModifiers()));
            Check.holds("not open: " + c, !Modifier.isPublic(c.getModifiers()) && !Modifier.isProtected(c.getModifiers()));
            Check.holds("none inside: " + c, c.getDeclaredClasses().length == 0);
            check(c);
        }
    }

    private static void check(Class<?> c) {
        long fields = Arrays.stream(c.getDeclaredFields()).filter(f -> !Modifier.isStatic(f.getModifiers())).count();
        Check.holds("some twenty fields: " + c, fields <= 20);
        for (Field field : c.getDeclaredFields()) {
            Check.holds("final: " + field, !Modifier.isStatic(field.getModifiers()) || Modifier.isFinal(field.getModifiers()));
        }
        for (Executable e : c.getDeclaredMethods()) {
            Check.holds("seven parameters: " + e, e.getParameterCount() <= 7);
            Check.holds("not of Object's: " + e, !Set.of("equals", "hashCode", "toString").contains(e.getName()));
        }
    }
}
