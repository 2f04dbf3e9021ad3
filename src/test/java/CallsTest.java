import com.sun.source.tree.CompilationUnitTree;
import com.sun.source.tree.MethodInvocationTree;
import com.sun.source.tree.MethodTree;
import com.sun.source.tree.NewClassTree;
import com.sun.source.util.JavacTask;
import com.sun.source.util.TreePathScanner;
import com.sun.source.util.Trees;
import java.nio.file.Path;
import java.util.HashMap;
import java.util.LinkedHashMap;
import java.util.LinkedHashSet;
import java.util.Map;
import java.util.Set;
import javax.lang.model.element.Element;
import javax.lang.model.element.ExecutableElement;
import javax.lang.model.element.Modifier;
import javax.tools.JavaCompiler;
import javax.tools.StandardJavaFileManager;
import javax.tools.ToolProvider;

/** The rules of LANGUAGE.md on who calls whom: the library (4), recursion (8), how deep calls go (11). */
public final class CallsTest {
    private static final int DEEPEST = 8;

    private static final Set<String> LIBRARY = Set.of(
        "java.lang.Math.max(int,int)", "java.lang.Math.min(int,int)", "java.lang.Math.min(long,long)", "java.lang.Math.abs(int)",
        "java.lang.Math.floorMod(int,int)", "java.lang.Integer.bitCount(int)", "java.lang.String.length()", "java.lang.String.charAt(int)",
        "java.lang.String.indexOf(int)", "java.lang.System.arraycopy(java.lang.Object,int,java.lang.Object,int,int)",
        "java.util.Arrays.fill(int[],int)", "java.util.Arrays.fill(long[],long)", "java.lang.Object.Object()");

    private final Map<Element, Set<Element>> calls = new LinkedHashMap<>();
    private final Map<Element, Integer> depths = new HashMap<>();

    public static void main(String[] args) throws Exception {
        CallsTest test = new CallsTest();
        test.read();
        test.library();
        test.recursion();
        test.depth();
        Check.finish();
    }

    private void read() throws Exception {
        JavaCompiler compiler = ToolProvider.getSystemJavaCompiler();
        try (StandardJavaFileManager files = compiler.getStandardFileManager(null, null, null)) {
            JavacTask task = (JavacTask) compiler.getTask(null, files, null, null, null, files.getJavaFileObjects(Path.of("src/main/java/DeerDays.java")));
            Iterable<? extends CompilationUnitTree> units = task.parse();
            task.analyze();
            new Scanner(Trees.instance(task)).scan(units, null);
        }
        Check.due("methods are read", calls.size() > 100, true);
    }

    private final class Scanner extends TreePathScanner<Void, Void> {
        private final Trees trees;
        private Element from;

        Scanner(Trees trees) {
            this.trees = trees;
        }

        @Override
        public Void visitMethod(MethodTree tree, Void none) {
            from = trees.getElement(getCurrentPath());
            calls.put(from, new LinkedHashSet<>());
            super.visitMethod(tree, none);
            from = null;
            return null;
        }

        @Override
        public Void visitMethodInvocation(MethodInvocationTree tree, Void none) {
            called();
            return super.visitMethodInvocation(tree, none);
        }

        @Override
        public Void visitNewClass(NewClassTree tree, Void none) {
            called();
            return super.visitNewClass(tree, none);
        }

        private void called() {
            if (from != null) {
                calls.get(from).add(trees.getElement(getCurrentPath()));
            }
        }
    }

    private static String told(Element e) {
        return (e.getEnclosingElement() + "." + e).replaceAll("\\s", "");
    }

    private void library() {
        for (Element from : calls.keySet()) {
            for (Element to : calls.get(from)) {
                if (!calls.containsKey(to) && !isOwn(to)) {
                    Check.due("calls of the library: " + told(to), LIBRARY.contains(told(to)), true);
                }
            }
        }
    }

    /** A constructor that the compiler adds has no tree. */
    private static boolean isOwn(Element e) {
        return e.getEnclosingElement().toString().startsWith("DeerDays");
    }

    /** Whoever calls itself is private and static; nobody calls itself by way of another one. */
    private void recursion() {
        for (Element from : calls.keySet()) {
            if (calls.get(from).contains(from)) {
                Set<Modifier> modifiers = ((ExecutableElement) from).getModifiers();
                Check.due("private and static: " + told(from), modifiers.contains(Modifier.PRIVATE) && modifiers.contains(Modifier.STATIC), true);
            }
        }
    }

    private void depth() {
        for (Element from : calls.keySet()) {
            Check.due("at most eight deep: " + told(from), depthOf(from, 0) <= DEEPEST, true);
        }
    }

    private int depthOf(Element from, int above) {
        if (above > calls.size()) {
            Check.due("calls itself by way of another one: " + told(from), true, false);
            return 0;
        }
        if (depths.containsKey(from)) {
            return depths.get(from);
        }
        int deepest = 0;
        for (Element to : calls.getOrDefault(from, Set.of())) {
            if (to != from) {
                deepest = Math.max(deepest, depthOf(to, above + 1));
            }
        }
        depths.put(from, deepest + 1);
        return deepest + 1;
    }
}
