import com.sun.source.tree.CompilationUnitTree;
import com.sun.source.tree.MethodInvocationTree;
import com.sun.source.tree.MethodTree;
import com.sun.source.tree.NewArrayTree;
import com.sun.source.tree.NewClassTree;
import com.sun.source.util.JavacTask;
import com.sun.source.util.TreePathScanner;
import com.sun.source.util.Trees;
import java.io.IOException;
import java.nio.file.Path;
import java.util.ArrayDeque;
import java.util.Deque;
import java.util.HashMap;
import java.util.HashSet;
import java.util.List;
import java.util.Map;
import java.util.Set;
import java.util.TreeMap;
import java.util.TreeSet;
import javax.lang.model.element.Element;
import javax.tools.JavaCompiler;
import javax.tools.StandardJavaFileManager;
import javax.tools.ToolProvider;

/** Rules of LANGUAGE.md about who calls what: 4 the library, 8 and 11 how deep calls go, 12 what is made where. */
public final class LanguageCallsTest {
    private static final Check CHECK = new Check("LanguageCallsTest");
    private static final Path SOURCE = Path.of("src/main/java/RibbonRoads.java");
    private static final int DEEPEST = 8;
    private static final Set<String> LIBRARY = Set.of(
        "java.lang.String.length", "java.lang.String.charAt", "java.lang.String.indexOf",
        "java.lang.Math.max", "java.lang.Math.min", "java.lang.Math.abs", "java.lang.Math.floorMod",
        "java.lang.Long.bitCount", "java.lang.System.arraycopy", "java.util.Arrays.fill");

    private final Map<String, Set<String>> calls = new TreeMap<>();
    private final Set<String> makers = new TreeSet<>();
    private final Map<String, Set<String>> allBelow = new HashMap<>();

    private final class Scan extends TreePathScanner<Void, Void> {
        private final Trees trees;
        private String at = "";

        Scan(Trees trees) {
            this.trees = trees;
        }

        private String nameOf(Element e) {
            return e.getEnclosingElement() + "." + e.getSimpleName();
        }

        @Override
        public Void visitMethod(MethodTree node, Void nothing) {
            String outside = at;
            at = nameOf(trees.getElement(getCurrentPath()));
            calls.putIfAbsent(at, new TreeSet<>());
            super.visitMethod(node, nothing);
            at = outside;
            return null;
        }

        @Override
        public Void visitMethodInvocation(MethodInvocationTree node, Void nothing) {
            Element called = trees.getElement(getCurrentPath());
            if (!called.getSimpleName().contentEquals("<init>")) {
                calls.get(at).add(nameOf(called));
            }
            return super.visitMethodInvocation(node, nothing);
        }

        @Override
        public Void visitNewClass(NewClassTree node, Void nothing) {
            makers.add(at);
            return super.visitNewClass(node, nothing);
        }

        @Override
        public Void visitNewArray(NewArrayTree node, Void nothing) {
            makers.add(at);
            return super.visitNewArray(node, nothing);
        }
    }

    private void read() throws IOException {
        JavaCompiler compiler = ToolProvider.getSystemJavaCompiler();
        try (StandardJavaFileManager files = compiler.getStandardFileManager(null, null, null)) {
            JavacTask task = (JavacTask) compiler.getTask(null, files, null, List.of("-proc:none"), null,
                files.getJavaFileObjects(SOURCE));
            Iterable<? extends CompilationUnitTree> units = task.parse();
            task.analyze();
            for (CompilationUnitTree unit : units) {
                new Scan(Trees.instance(task)).scan(unit, null);
            }
        }
    }

    private Set<String> below(String method) {
        Set<String> known = allBelow.get(method);
        if (known != null) {
            return known;
        }
        Set<String> found = new HashSet<>();
        Deque<String> todo = new ArrayDeque<>(List.of(method));
        while (!todo.isEmpty()) {
            for (String called : calls.getOrDefault(todo.pop(), Set.of())) {
                if (found.add(called)) {
                    todo.push(called);
                }
            }
        }
        allBelow.put(method, found);
        return found;
    }

    private boolean callOneAnother(String a, String b) {
        return below(a).contains(b) && below(b).contains(a);
    }

    /** Methods open at once at most; those that call one another are one. */
    private int depth(String method) {
        int deepest = 0;
        Set<String> together = new TreeSet<>(Set.of(method));
        calls.keySet().stream().filter(m -> callOneAnother(m, method)).forEach(together::add);
        for (String one : together) {
            for (String called : calls.get(one)) {
                if (calls.containsKey(called) && !together.contains(called)) {
                    deepest = Math.max(deepest, depth(called));
                }
            }
        }
        return deepest + 1;
    }

    private void judge() {
        CHECK.due("methods were found", calls.size() > 100 ? 1 : 0, 1);
        for (Map.Entry<String, Set<String>> e : calls.entrySet()) {
            int depth = depth(e.getKey());
            CHECK.due("rule 11: " + e.getKey() + " goes " + depth + " deep", depth <= DEEPEST ? 1 : 0, 1);
            for (String called : e.getValue()) {
                boolean known = calls.containsKey(called) || LIBRARY.contains(called);
                CHECK.due("rule 4: " + e.getKey() + " calls " + called, known ? 1 : 0, 1);
            }
        }
        for (String maker : makers) {
            // Fields are made outside of methods: "" here.
            boolean fit = maker.isEmpty() || maker.endsWith(".<init>");
            CHECK.due("rule 12: made but by a constructor: " + maker, fit ? 1 : 0, 1);
        }
    }

    /** Rule 8: a method that calls itself, or methods that do so together, carries the depth as an argument. */
    private void recursion() {
        Set<String> found = new TreeSet<>();
        for (String method : calls.keySet()) {
            if (below(method).contains(method)) {
                found.add(method.substring(method.lastIndexOf('.') + 1));
            }
        }
        Set<String> guarded = Set.of("readTruth", "readBoth", "readUnit", "readNested", "readSum", "readTerm", "readAtom", "manyFrom");
        CHECK.due("rule 8: " + found + " call themselves, guarded are " + guarded, found.equals(guarded) ? 1 : 0, 1);
    }

    public static void main(String[] args) throws IOException {
        LanguageCallsTest test = new LanguageCallsTest();
        test.read();
        test.judge();
        test.recursion();
        CHECK.end();
    }
}
