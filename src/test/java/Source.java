import com.sun.source.tree.CompilationUnitTree;
import com.sun.source.tree.ForLoopTree;
import com.sun.source.tree.MethodInvocationTree;
import com.sun.source.tree.MethodTree;
import com.sun.source.tree.NewClassTree;
import com.sun.source.tree.Tree;
import com.sun.source.util.JavacTask;
import com.sun.source.util.SourcePositions;
import com.sun.source.util.TreePathScanner;
import com.sun.source.util.Trees;
import java.io.IOException;
import java.nio.file.Path;
import java.util.ArrayList;
import java.util.EnumMap;
import java.util.LinkedHashMap;
import java.util.LinkedHashSet;
import java.util.List;
import java.util.Map;
import java.util.Set;
import java.util.TreeSet;
import javax.lang.model.element.Element;
import javax.lang.model.element.Modifier;
import javax.lang.model.element.TypeElement;
import javax.tools.JavaCompiler;
import javax.tools.StandardJavaFileManager;
import javax.tools.ToolProvider;

/** A Java file as the compiler sees it: its methods, what each of them calls, and which kinds of lines it has. */
final class Source extends TreePathScanner<Void, Void> {
    static final class Method {
        final String name;
        final boolean isPrivate;
        final boolean isPublic;
        final List<String> parameters = new ArrayList<>();
        final Set<String> calls = new LinkedHashSet<>();
        long lines;

        Method(String name, Set<Modifier> modifiers) {
            this.name = name;
            isPrivate = modifiers.contains(Modifier.PRIVATE);
            isPublic = modifiers.contains(Modifier.PUBLIC);
        }
    }

    /** By class, name and types of the parameters. */
    final Map<String, Method> methods = new LinkedHashMap<>();
    /** What of the library is called or made. */
    final Set<String> library = new TreeSet<>();
    final Map<Tree.Kind, Integer> kinds = new EnumMap<>(Tree.Kind.class);
    int loopsWithoutCondition;
    private final Map<String, String> groups = new LinkedHashMap<>();
    private final Map<String, Integer> depths = new LinkedHashMap<>();
    private Trees trees;
    private CompilationUnitTree unit;
    private Method current;

    static Source of(Path file) throws IOException {
        JavaCompiler compiler = ToolProvider.getSystemJavaCompiler();
        Source source = new Source();
        try (StandardJavaFileManager files = compiler.getStandardFileManager(null, null, null)) {
            JavacTask task = (JavacTask) compiler.getTask(null, files, null, null, null, files.getJavaFileObjects(file));
            source.trees = Trees.instance(task);
            Iterable<? extends CompilationUnitTree> units = task.parse();
            task.analyze();
            for (CompilationUnitTree one : units) {
                source.unit = one;
                source.scan(one, null);
            }
        }
        return source;
    }

    @Override
    public Void scan(Tree tree, Void nothing) {
        if (tree != null) {
            kinds.merge(tree.getKind(), 1, Integer::sum);
        }
        return super.scan(tree, nothing);
    }

    @Override
    public Void visitForLoop(ForLoopTree tree, Void nothing) {
        if (tree.getCondition() == null) {
            loopsWithoutCondition++;
        }
        return super.visitForLoop(tree, nothing);
    }

    @Override
    public Void visitMethod(MethodTree tree, Void nothing) {
        Element element = trees.getElement(getCurrentPath());
        Method method = new Method(tree.getName().toString(), element.getModifiers());
        tree.getParameters().forEach(p -> method.parameters.add(p.getName().toString()));
        SourcePositions positions = trees.getSourcePositions();
        long start = positions.getStartPosition(unit, tree);
        long end = positions.getEndPosition(unit, tree);
        // A constructor that is not written out has no end.
        if (end > start) {
            method.lines = unit.getLineMap().getLineNumber(end) - unit.getLineMap().getLineNumber(start) + 1;
        }
        methods.put(keyOf(element), method);
        current = method;
        super.visitMethod(tree, nothing);
        current = null;
        return null;
    }

    @Override
    public Void visitMethodInvocation(MethodInvocationTree tree, Void nothing) {
        note(trees.getElement(getCurrentPath()));
        return super.visitMethodInvocation(tree, nothing);
    }

    @Override
    public Void visitNewClass(NewClassTree tree, Void nothing) {
        note(trees.getElement(getCurrentPath()));
        return super.visitNewClass(tree, nothing);
    }

    private void note(Element called) {
        TypeElement owner = (TypeElement) called.getEnclosingElement();
        boolean own = owner.getQualifiedName().toString().startsWith("SchemaDesk");
        boolean isDefault = called.toString().equals("Object()");
        if (own && current != null) {
            current.calls.add(keyOf(called));
        } else if (!own && !isDefault) {
            library.add(owner.getSimpleName() + "." + called.getSimpleName());
        }
    }

    private static String keyOf(Element method) {
        return method.getEnclosingElement() + "." + method;
    }

    /** Whether a method can come back to itself through what it calls. */
    boolean isRecursive(String key) {
        return methods.get(key).calls.stream().anyMatch(called -> reaches(called, key, new LinkedHashSet<>()));
    }

    private boolean reaches(String from, String to, Set<String> seen) {
        if (from.equals(to)) {
            return true;
        }
        return methods.containsKey(from) && seen.add(from)
            && methods.get(from).calls.stream().anyMatch(called -> reaches(called, to, seen));
    }

    private boolean callOneAnother(String one, String other) {
        return one.equals(other)
            || reaches(one, other, new LinkedHashSet<>()) && reaches(other, one, new LinkedHashSet<>());
    }

    /** The first of the methods that call one another; it stands for all of them. */
    String groupOf(String key) {
        return groups.computeIfAbsent(key, one ->
            methods.keySet().stream().filter(other -> callOneAnother(one, other)).findFirst().orElse(one));
    }

    /** How many methods stand open at once, those that call one another being counted as one. */
    int depth(String key) {
        String group = groupOf(key);
        Integer known = depths.get(group);
        if (known != null) {
            return known;
        }
        int most = 0;
        for (String member : methods.keySet()) {
            if (groupOf(member).equals(group)) {
                for (String called : methods.get(member).calls) {
                    if (methods.containsKey(called) && !groupOf(called).equals(group)) {
                        most = Math.max(most, depth(called));
                    }
                }
            }
        }
        depths.put(group, most + 1);
        return most + 1;
    }
}
