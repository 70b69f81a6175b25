import com.sun.source.tree.Tree;
import java.lang.reflect.Constructor;
import java.lang.reflect.Field;
import java.lang.reflect.Method;
import java.lang.reflect.Modifier;
import java.nio.file.Files;
import java.nio.file.Path;
import java.util.Set;
import java.util.TreeSet;

/** Rules of LANGUAGE.md that can be looked at without running the program; run in the project's folder. */
public final class LanguageTest {
    private static final Due DUE = new Due("LanguageTest");
    private static final String FACE = "[decode, drain, encode, feed, fingerprint, mode, out, place, print, reads, register, "
        + "versions, wipe, write]";
    private static final String LIBRARY = "[Arrays.copyOf, Arrays.fill, IllegalArgumentException.<init>, "
        + "IllegalStateException.<init>, IndexOutOfBoundsException.<init>]";
    /** Some of these are allowed in part; the program does without them. */
    private static final Tree.Kind[] FORBIDDEN = {Tree.Kind.LAMBDA_EXPRESSION, Tree.Kind.MEMBER_REFERENCE, Tree.Kind.TRY,
        Tree.Kind.SYNCHRONIZED, Tree.Kind.ASSERT, Tree.Kind.WHILE_LOOP, Tree.Kind.DO_WHILE_LOOP, Tree.Kind.ENHANCED_FOR_LOOP,
        Tree.Kind.STRING_LITERAL, Tree.Kind.DOUBLE_LITERAL, Tree.Kind.FLOAT_LITERAL, Tree.Kind.INSTANCE_OF};
    private static final Path PROGRAM = Path.of("src/main/java/SchemaDesk.java");

    public static void main(String[] args) throws Exception {
        face();
        nestedClasses();
        words();
        Source source = Source.of(PROGRAM);
        kindsOfLines(source);
        methods(source);
        DUE.end();
    }

    private static void face() {
        Set<String> names = new TreeSet<>();
        for (Method method : SchemaDesk.class.getDeclaredMethods()) {
            if (Modifier.isPublic(method.getModifiers())) {
                names.add(method.getName());
            } else {
                DUE.is(method.getName() + " is private", true, Modifier.isPrivate(method.getModifiers()));
            }
        }
        DUE.is("face", FACE, names);
        for (Field field : SchemaDesk.class.getDeclaredFields()) {
            DUE.is(field.getName() + " is private", true, Modifier.isPrivate(field.getModifiers()));
        }
        Constructor<?>[] constructors = SchemaDesk.class.getDeclaredConstructors();
        DUE.is("constructors", 1, constructors.length);
        DUE.is("class", Modifier.PUBLIC | Modifier.FINAL, SchemaDesk.class.getModifiers());
    }

    private static void nestedClasses() {
        Class<?>[] nested = SchemaDesk.class.getDeclaredClasses();
        DUE.is("some twelve classes at most", true, nested.length <= 12);
        for (Class<?> one : nested) {
            DUE.is(one.getName() + " is static", true, Modifier.isStatic(one.getModifiers()));
            DUE.is(one.getName() + " has some twenty fields at most", true, one.getDeclaredFields().length <= 20);
            for (Field field : one.getDeclaredFields()) {
                int modifiers = field.getModifiers();
                DUE.is(field + " is no static state", true, !Modifier.isStatic(modifiers) || Modifier.isFinal(modifiers));
            }
            for (Method method : one.getDeclaredMethods()) {
                DUE.is(method + " has no name of the face", false, FACE.matches(".*\\b" + method.getName() + "\\b.*"));
            }
        }
    }

    private static void words() throws Exception {
        String source = Files.readString(PROGRAM);
        String code = source.replaceAll("(?s)/\\*.*?\\*/", "").replaceAll("//[^\\n]*", "");
        String imports = code.lines().filter(line -> line.startsWith("import")).reduce("", String::concat);
        DUE.is("imports", "import java.util.Arrays;", imports);
        DUE.is("'static {' stands in the program", false, code.contains("static {"));
        DUE.is("an annotation stands in the program", false, code.contains("@"));
    }

    private static void kindsOfLines(Source source) {
        for (Tree.Kind kind : FORBIDDEN) {
            DUE.is(kind + " in the program", 0, source.kinds.getOrDefault(kind, 0));
        }
        DUE.is("loops without a condition", 0, source.loopsWithoutCondition);
        DUE.is("library", LIBRARY, source.library);
    }

    private static void methods(Source source) {
        DUE.is("the methods are there", true, source.methods.size() > 50);
        for (String key : source.methods.keySet()) {
            Source.Method method = source.methods.get(key);
            DUE.is(key + " has at most seven parameters", true, method.parameters.size() <= 7);
            DUE.is(key + " is short: " + method.lines, true, method.lines <= 60);
            if (method.isPublic) {
                DUE.is(key + " goes at most eight deep: " + source.depth(key), true, source.depth(key) <= 8);
            }
            if (source.isRecursive(key)) {
                DUE.is(key + " calls itself and is private", true, method.isPrivate);
                DUE.is(key + " carries the depth", true, method.parameters.contains("depth"));
            }
        }
    }
}
