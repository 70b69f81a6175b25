import java.net.URL;
import java.net.URLClassLoader;
import java.nio.file.Files;
import java.nio.file.Path;
import java.util.ArrayList;
import java.util.List;
import java.util.stream.Stream;
import javax.tools.JavaCompiler;
import javax.tools.ToolProvider;

/** Makes the calls that README.md shows and holds the answers against those that it tells; run in the project's folder. */
public final class ReadmeTest {
    private static final Due DUE = new Due("ReadmeTest");
    private static final String ARROW = "// -> ";

    private final List<String> members = new ArrayList<>();
    private final List<String> statements = new ArrayList<>();
    private final List<String> calls = new ArrayList<>();
    private final List<String> due = new ArrayList<>();

    public static void main(String[] args) throws Exception {
        ReadmeTest test = new ReadmeTest();
        test.take(Files.readAllLines(Path.of("README.md")));
        List<String> answers = test.answers();
        DUE.is("README.md shows calls", true, test.calls.size() > 50);
        DUE.is("answers", test.calls.size(), answers.size());
        for (int i = 0; i < answers.size(); i++) {
            String told = test.due.get(i);
            String answer = answers.get(i);
            boolean asTold = told.equals(answer) || told.startsWith(answer + ": ");
            DUE.is(test.calls.get(i), told, asTold ? told : answer);
        }
        test.everyMethodIsShown();
        DUE.end();
    }

    private void take(List<String> lines) {
        List<String> block = null;
        for (String line : lines) {
            if (line.equals("```java")) {
                block = new ArrayList<>();
            } else if (line.equals("```") && block != null) {
                takeBlock(block);
                block = null;
            } else if (block != null) {
                block.add(line);
            }
        }
    }

    private void takeBlock(List<String> block) {
        if (block.get(0).startsWith("static ")) {
            members.addAll(block);
            return;
        }
        for (String line : block) {
            int arrow = line.indexOf(ARROW);
            if (arrow < 0) {
                statements.add(line);
            } else {
                String call = line.substring(0, arrow).strip().replaceAll(";$", "");
                calls.add(call);
                due.add(line.substring(arrow + ARROW.length()).strip());
                statements.add(asked(call));
            }
        }
    }

    private static String asked(String call) {
        String asked = call.contains(".mode(") ? call + "; answers.add(\"nothing\");" : "answers.add(String.valueOf(" + call + "));";
        return "try { " + asked + " } catch (RuntimeException e) { answers.add(\"throws \" + e.getClass().getSimpleName()); }";
    }

    /** Compiles what was taken and runs it. */
    private List<String> answers() throws Exception {
        Path folder = Files.createTempDirectory("readme");
        try {
            Path file = folder.resolve("ReadmeCalls.java");
            Files.writeString(file, "public final class ReadmeCalls {\n" + String.join("\n", members)
                + "\npublic static void run(java.util.List<String> answers) {\n" + String.join("\n", statements) + "\n}\n}\n");
            JavaCompiler compiler = ToolProvider.getSystemJavaCompiler();
            String classes = System.getProperty("java.class.path");
            DUE.is("it compiles", 0, compiler.run(null, null, null, "-d", folder.toString(), "-cp", classes, file.toString()));
            List<String> answers = new ArrayList<>();
            try (URLClassLoader loader = new URLClassLoader(new URL[] {folder.toUri().toURL()})) {
                loader.loadClass("ReadmeCalls").getMethod("run", List.class).invoke(null, answers);
            }
            return answers;
        } finally {
            remove(folder);
        }
    }

    private static void remove(Path folder) throws Exception {
        List<Path> files;
        try (Stream<Path> all = Files.list(folder)) {
            files = all.toList();
        }
        for (Path file : files) {
            Files.delete(file);
        }
        Files.delete(folder);
    }

    private void everyMethodIsShown() {
        for (java.lang.reflect.Method method : SchemaDesk.class.getDeclaredMethods()) {
            if (java.lang.reflect.Modifier.isPublic(method.getModifiers())) {
                String call = "desk." + method.getName() + "(";
                DUE.is("README.md shows " + call, true, calls.stream().anyMatch(c -> c.startsWith(call)));
            }
        }
    }
}
