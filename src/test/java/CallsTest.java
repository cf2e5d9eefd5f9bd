import com.sun.source.tree.ClassTree;
import com.sun.source.tree.CompilationUnitTree;
import com.sun.source.tree.MethodInvocationTree;
import com.sun.source.tree.MethodTree;
import com.sun.source.tree.NewClassTree;
import com.sun.source.util.JavacTask;
import com.sun.source.util.TreePathScanner;
import com.sun.source.util.Trees;
import java.nio.file.Path;
import java.util.ArrayList;
import java.util.List;
import java.util.Map;
import java.util.Set;
import java.util.TreeMap;
import java.util.TreeSet;
import javax.lang.model.element.Element;
import javax.lang.model.element.ExecutableElement;
import javax.tools.JavaCompiler;
import javax.tools.StandardJavaFileManager;
import javax.tools.ToolProvider;

/** Who calls whom in the source, as the compiler reads it: rules 4, 8 and 11 of LANGUAGE.md; run from the project's root. */
public final class CallsTest {
    private static final Path SOURCE = Path.of("src/main/java/SneezeGuard.java");
    private static final int DEEPEST = 8;
    // What of rule 4 the class may call; LanguageTest looks at the imports and at the words.
    private static final Set<String> LIBRARY = Set.of("java.lang.String.indexOf(int)", "java.lang.Math.abs(int)",
        "java.lang.Math.min(int,int)", "java.lang.Math.max(int,int)", "java.lang.Integer.bitCount(int)",
        "java.util.Arrays.fill(int[],int)", "java.lang.System.arraycopy(java.lang.Object,int,java.lang.Object,int,int)");

    private static final Check check = new Check();
    private static final Map<String, Set<String>> callees = new TreeMap<>();
    private static final Map<String, Integer> depths = new TreeMap<>();

    public static void main(String[] args) throws Exception {
        JavaCompiler compiler = ToolProvider.getSystemJavaCompiler();
        if (compiler == null) {
            System.out.println("CallsTest: this java has no compiler, so the calls are not read");
            return;
        }
        read(compiler);
        check.holds("the source has methods", callees.size() > 30);
        for (String method : callees.keySet()) {
            int depth = depthOf(method, new ArrayList<>());
            check.holds("11 at most " + DEEPEST + " deep, not " + depth + ": " + deepestWay(method), depth <= DEEPEST);
        }
        check.end("CallsTest");
    }

    private static void read(JavaCompiler compiler) throws Exception {
        try (StandardJavaFileManager files = compiler.getStandardFileManager(null, null, null)) {
            JavacTask task = (JavacTask) compiler.getTask(null, files, null, List.of("-proc:none"), null,
                files.getJavaFileObjects(SOURCE));
            Iterable<? extends CompilationUnitTree> units = task.parse();
            task.analyze();
            for (CompilationUnitTree unit : units) new Calls(Trees.instance(task)).scan(unit, null);
        }
    }

    /** What a field begins with is called by the constructor of its class. */
    private static final class Calls extends TreePathScanner<Void, Void> {
        private final Trees trees;
        private String method;

        Calls(Trees trees) {
            this.trees = trees;
        }

        @Override
        public Void visitClass(ClassTree node, Void p) {
            String outer = method;
            method = trees.getElement(getCurrentPath()) + ".<init>()";
            super.visitClass(node, p);
            method = outer;
            return null;
        }

        @Override
        public Void visitMethod(MethodTree node, Void p) {
            String outer = method;
            ExecutableElement element = (ExecutableElement) trees.getElement(getCurrentPath());
            if (node.getReturnType() == null) {
                method = element.getEnclosingElement() + ".<init>()";
            } else {
                method = nameOf(element);
            }
            callees.computeIfAbsent(method, m -> new TreeSet<>());
            super.visitMethod(node, p);
            method = outer;
            return null;
        }

        @Override
        public Void visitMethodInvocation(MethodInvocationTree node, Void p) {
            call(trees.getElement(getCurrentPath()));
            return super.visitMethodInvocation(node, p);
        }

        @Override
        public Void visitNewClass(NewClassTree node, Void p) {
            call(trees.getElement(getCurrentPath()));
            return super.visitNewClass(node, p);
        }

        private void call(Element element) {
            boolean made = element.getSimpleName().contentEquals("<init>");
            String owner = element.getEnclosingElement().toString();
            if (owner.equals("java.lang.Object")) return;
            if (!owner.equals("SneezeGuard") && !owner.startsWith("SneezeGuard.")) {
                check.holds("4 the library: " + nameOf(element), LIBRARY.contains(nameOf(element)));
                return;
            }
            String callee = made ? owner + ".<init>()" : nameOf(element);
            callees.computeIfAbsent(method, m -> new TreeSet<>()).add(callee);
            callees.computeIfAbsent(callee, m -> new TreeSet<>());
        }

        private static String nameOf(Element element) {
            return element.getEnclosingElement() + "." + element;
        }
    }

    /** How many calls stand open at most, itself among them; rule 8: none calls itself, by whatever way. */
    private static int depthOf(String method, List<String> open) {
        if (open.contains(method)) {
            check.holds("8 no recursion: " + open + " calls " + method, false);
            return DEEPEST + 1;
        }
        Integer known = depths.get(method);
        if (known != null) return known;
        open.add(method);
        int deepest = 0;
        for (String callee : callees.get(method)) deepest = Math.max(deepest, depthOf(callee, open));
        open.remove(method);
        depths.put(method, deepest + 1);
        return deepest + 1;
    }

    private static String deepestWay(String method) {
        StringBuilder way = new StringBuilder(method);
        for (String callee : callees.get(method)) {
            if (depths.get(callee) + 1 == depths.get(method)) return way.append(" > ").append(deepestWay(callee)).toString();
        }
        return way.toString();
    }
}
