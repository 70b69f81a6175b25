import java.lang.reflect.Constructor;
import java.lang.reflect.Field;
import java.lang.reflect.Method;
import java.lang.reflect.Modifier;
import java.nio.file.Files;
import java.nio.file.Path;
import java.util.Set;
import java.util.TreeSet;

/** Some rules of LANGUAGE.md that can be looked at from outside; run in the project's folder. */
public final class LanguageTest {
    private static final Due DUE = new Due("LanguageTest");
    private static final String FACE = "[decode, drain, encode, feed, fingerprint, mode, out, place, print, reads, register, "
        + "versions, wipe, write]";
    private static final String[] FORBIDDEN = {"->", "::", " try ", "catch", "finally", "synchronized", "assert ", "protected ",
        "Exact(", "static {", "while (true)", "for (;;)", "System.", "String", "double", "float", "@"};

    public static void main(String[] args) throws Exception {
        face();
        nestedClasses();
        source();
        DUE.end();
    }

    private static void face() {
        Set<String> names = new TreeSet<>();
        for (Method method : SchemaDesk.class.getDeclaredMethods()) {
            if (Modifier.isPublic(method.getModifiers())) {
                names.add(method.getName());
            } else {
                DUE.is(method.getName() + " is private", true, Modifier.isPrivate(method.getModifiers()));
            }
        }
        DUE.is("face", FACE, names);
        for (Field field : SchemaDesk.class.getDeclaredFields()) {
            DUE.is(field.getName() + " is private", true, Modifier.isPrivate(field.getModifiers()));
        }
        Constructor<?>[] constructors = SchemaDesk.class.getDeclaredConstructors();
        DUE.is("constructors", 1, constructors.length);
        DUE.is("class", Modifier.PUBLIC | Modifier.FINAL, SchemaDesk.class.getModifiers());
    }

    private static void nestedClasses() {
        Class<?>[] nested = SchemaDesk.class.getDeclaredClasses();
        DUE.is("some twelve classes at most", true, nested.length <= 12);
        for (Class<?> one : nested) {
            DUE.is(one.getName() + " is static", true, Modifier.isStatic(one.getModifiers()));
            for (Field field : one.getDeclaredFields()) {
                int modifiers = field.getModifiers();
                DUE.is(field + " is no static state", true, !Modifier.isStatic(modifiers) || Modifier.isFinal(modifiers));
            }
            for (Method method : one.getDeclaredMethods()) {
                DUE.is(method + " has no name of the face", false, FACE.matches(".*\\b" + method.getName() + "\\b.*"));
                DUE.is(method + " has at most seven parameters", true, method.getParameterCount() <= 7);
            }
        }
    }

    private static void source() throws Exception {
        String source = Files.readString(Path.of("src/main/java/SchemaDesk.java"));
        String code = source.replaceAll("(?s)/\\*.*?\\*/", "").replaceAll("//[^\\n]*", "").replace("readString", "");
        code = code.replace("skipString", "").replace("resolveString", "");
        for (String word : FORBIDDEN) {
            DUE.is("'" + word + "' stands in the program", false, code.contains(word));
        }
        DUE.is("imports", "import java.util.Arrays;", code.lines().filter(l -> l.startsWith("import")).reduce("", String::concat));
    }
}
