import com.sun.source.tree.ClassTree;
import com.sun.source.tree.CompilationUnitTree;
import com.sun.source.tree.MethodInvocationTree;
import com.sun.source.tree.MethodTree;
import com.sun.source.tree.NewClassTree;
import com.sun.source.tree.VariableTree;
import com.sun.source.util.JavacTask;
import com.sun.source.util.TreePathScanner;
import com.sun.source.util.Trees;
import java.io.IOException;
import java.nio.file.Path;
import java.util.ArrayList;
import java.util.HashMap;
import java.util.LinkedHashMap;
import java.util.LinkedHashSet;
import java.util.List;
import java.util.Map;
import java.util.Set;
import javax.lang.model.element.Element;
import javax.lang.model.element.Modifier;
import javax.tools.JavaCompiler;
import javax.tools.StandardJavaFileManager;
import javax.tools.ToolProvider;

/** Rules 4, 8, 11 and 12 of LANGUAGE.md on calls, classes and fields, as the compiler sees the program. */
public final class CallsTest {
    private static final int DEEPEST = 8;
    private static final Check check = new Check();
    /** What the program uses of the list in rule 4. */
    private static final Set<String> LIBRARY = Set.of(
            "java.util.Arrays.fill", "java.lang.Math.max", "java.lang.Math.abs", "java.lang.Object.<init>");

    /** For each method what it calls, own methods and those of the library. */
    private final Map<String, Set<String>> calls = new LinkedHashMap<>();
    private final Map<String, Integer> fields = new LinkedHashMap<>();
    private final Map<String, Integer> depths = new HashMap<>();
    private final List<String> makers = new ArrayList<>();

    public static void main(String[] args) throws IOException {
        CallsTest test = new CallsTest();
        test.readProgram();
        test.look();
        check.end();
    }

    private void look() {
        check.due("no calls found", "false", String.valueOf(calls.get("BlockYard.solve()") == null));
        for (String method : calls.keySet()) {
            int beyond = Math.max(0, depth(method, List.of()) - DEEPEST);
            check.due("calls in " + method + ", levels beyond eight", 0, beyond);
            for (String called : calls.get(method)) {
                boolean own = called.startsWith("BlockYard");
                String name = called.substring(0, called.indexOf('('));
                check.due(method + " calls " + called, "true", String.valueOf(own || LIBRARY.contains(name)));
            }
        }
        check.due("classes beyond twelve", 0, Math.max(0, fields.size() - 12));
        for (String owner : fields.keySet()) {
            check.due("fields of " + owner + " beyond twenty", 0, Math.max(0, fields.get(owner) - 20));
        }
        check.due("methods that make objects", "[]", makers.toString());
    }

    /** How many calls stand open at once in this one, itself among them. */
    private int depth(String method, List<String> open) {
        if (open.contains(method)) {
            check.due("recursion", "none", method);
            return 0;
        }
        if (!depths.containsKey(method)) {
            List<String> nowOpen = new ArrayList<>(open);
            nowOpen.add(method);
            int deepest = 0;
            for (String called : calls.getOrDefault(method, Set.of())) {
                deepest = Math.max(deepest, depth(called, nowOpen));
            }
            depths.put(method, deepest + 1);
        }
        return depths.get(method);
    }

    private void readProgram() throws IOException {
        JavaCompiler compiler = ToolProvider.getSystemJavaCompiler();
        try (StandardJavaFileManager files = compiler.getStandardFileManager(null, null, null)) {
            var program = files.getJavaFileObjects(Path.of("src/main/java/BlockYard.java"));
            JavacTask task = (JavacTask) compiler.getTask(null, files, null, List.of("-proc:none"), null, program);
            Iterable<? extends CompilationUnitTree> units = task.parse();
            task.analyze();
            Trees trees = Trees.instance(task);
            for (CompilationUnitTree unit : units) {
                new Scanner(trees).scan(unit, null);
            }
        }
    }

    private final class Scanner extends TreePathScanner<Void, Void> {
        private final Trees trees;
        private String owner = "";
        private String method = "";

        Scanner(Trees trees) {
            this.trees = trees;
        }

        @Override
        public Void visitClass(ClassTree tree, Void nothing) {
            String outerOwner = owner;
            owner = trees.getElement(getCurrentPath()).toString();
            method = owner + ".<init>()";
            fields.put(owner, 0);
            super.visitClass(tree, nothing);
            owner = outerOwner;
            method = owner + ".<init>()";
            return null;
        }

        @Override
        public Void visitMethod(MethodTree tree, Void nothing) {
            String outerMethod = method;
            method = nameOf(trees.getElement(getCurrentPath()));
            calls.computeIfAbsent(method, m -> new LinkedHashSet<>());
            super.visitMethod(tree, nothing);
            method = outerMethod;
            return null;
        }

        @Override
        public Void visitVariable(VariableTree tree, Void nothing) {
            boolean isField = getCurrentPath().getParentPath().getLeaf() instanceof ClassTree;
            if (isField && !tree.getModifiers().getFlags().contains(Modifier.STATIC)) {
                fields.merge(owner, 1, Integer::sum);
            }
            return super.visitVariable(tree, nothing);
        }

        @Override
        public Void visitMethodInvocation(MethodInvocationTree tree, Void nothing) {
            note();
            return super.visitMethodInvocation(tree, nothing);
        }

        @Override
        public Void visitNewClass(NewClassTree tree, Void nothing) {
            note();
            if (!method.contains("<init>")) {
                makers.add(method);
            }
            return super.visitNewClass(tree, nothing);
        }

        private void note() {
            String called = nameOf(trees.getElement(getCurrentPath()));
            calls.computeIfAbsent(method, m -> new LinkedHashSet<>()).add(called);
        }

        private String nameOf(Element element) {
            boolean isConstructor = element.getSimpleName().contentEquals("<init>");
            String form = element.toString();
            String parameters = form.substring(form.indexOf('('));
            return element.getEnclosingElement() + "." + element.getSimpleName() + (isConstructor ? "()" : parameters);
        }
    }
}
