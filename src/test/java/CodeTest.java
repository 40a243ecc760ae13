import com.sun.source.tree.DoWhileLoopTree;
import com.sun.source.tree.ForLoopTree;
import com.sun.source.tree.MethodInvocationTree;
import com.sun.source.tree.MethodTree;
import com.sun.source.tree.NewArrayTree;
import com.sun.source.tree.NewClassTree;
import com.sun.source.tree.WhileLoopTree;
import com.sun.source.util.JavacTask;
import com.sun.source.util.TreePath;
import com.sun.source.util.TreePathScanner;
import com.sun.source.util.Trees;
import java.nio.file.Path;
import java.util.HashMap;
import java.util.List;
import java.util.Map;
import java.util.Set;
import java.util.TreeMap;
import java.util.TreeSet;
import javax.lang.model.element.Element;
import javax.lang.model.element.ElementKind;
import javax.lang.model.element.ExecutableElement;
import javax.lang.model.element.Modifier;
import javax.lang.model.element.TypeElement;
import javax.tools.JavaCompiler;
import javax.tools.StandardJavaFileManager;
import javax.tools.ToolProvider;

/** Rules of LANGUAGE.md that need the parsed file: which method calls which, how deep, loops, and where objects are made. */
public final class CodeTest extends Check {
    private static final Path SOURCE = Path.of("src/main/java/FormPlaces.java");
    private static final int CALLS_OF_FACE = 27;
    private static final int MOST_DEEP = 8;
    private static final int MOST_PARAMETERS = 7;
    /** Of the library only these are used; LANGUAGE.md's rule 4 allows some more. */
    private static final Set<String> LIBRARY = Set.of("Math.abs", "Math.max", "Math.min", "Math.floorMod",
            "Long.bitCount", "System.arraycopy");
    /** The only method that calls itself; it carries its depth, a TERM's number. */
    private static final Set<String> CALLS_ITSELF = Set.of("LeastRow.seek");

    private static final Map<String, Set<String>> CALLS = new TreeMap<>();
    private static final Set<String> OPEN_TO_ALL = new TreeSet<>();
    private static final Map<String, Integer> DEPTHS = new HashMap<>();

    public static void main(String[] args) throws Exception {
        JavaCompiler compiler = ToolProvider.getSystemJavaCompiler();
        try (StandardJavaFileManager files = compiler.getStandardFileManager(null, null, null)) {
            JavacTask task = (JavacTask) compiler.getTask(null, files, null, List.of("--release", "17", "-proc:none"),
                    null, files.getJavaFileObjects(SOURCE));
            var units = task.parse();
            task.analyze();
            for (var unit : units) new Reader(Trees.instance(task)).scan(unit, null);
        }
        if (OPEN_TO_ALL.size() != CALLS_OF_FACE + 1) tellWrong("methods and constructors of the face: " + OPEN_TO_ALL);
        for (String method : CALLS.keySet()) depth(method, new TreeSet<>());
        for (String method : OPEN_TO_ALL) {
            int deep = DEPTHS.get(method);
            if (deep > MOST_DEEP) tellWrong("rule 11: " + method + " goes " + deep + " deep");
        }
        end("CodeTest");
    }

    /** How many calls stand open at most, the method's own counted; a call of itself is not. */
    private static int depth(String method, Set<String> open) {
        if (DEPTHS.containsKey(method)) return DEPTHS.get(method);
        open.add(method);
        int deepest = 0;
        for (String called : CALLS.getOrDefault(method, Set.of())) {
            if (called.equals(method) && CALLS_ITSELF.contains(method)) continue;
            if (open.contains(called)) tellWrong("rule 8: " + method + " calls " + called + " again");
            else deepest = Math.max(deepest, depth(called, open));
        }
        open.remove(method);
        DEPTHS.put(method, deepest + 1);
        return deepest + 1;
    }

    /** Goes through the file, keeps which method calls which, and tells what the rules forbid. */
    private static final class Reader extends TreePathScanner<Void, Void> {
        private final Trees trees;

        Reader(Trees trees) {
            this.trees = trees;
        }

        private static String nameOf(Element method) {
            return method.getEnclosingElement().getSimpleName() + "." + method.getSimpleName();
        }

        /** The method in which the reader is; null between methods. */
        private ExecutableElement here() {
            for (TreePath path = getCurrentPath(); path != null; path = path.getParentPath())
                if (path.getLeaf() instanceof MethodTree) return (ExecutableElement) trees.getElement(path);
            return null;
        }

        private boolean isOwn(Element method) {
            for (Element part = method; part != null; part = part.getEnclosingElement())
                if (part instanceof TypeElement && part.getSimpleName().contentEquals("FormPlaces")) return true;
            return false;
        }

        private void keepCall(Element method) {
            String from = here() == null ? "fields" : nameOf(here());
            CALLS.computeIfAbsent(from, key -> new TreeSet<>());
            if (isOwn(method)) CALLS.get(from).add(nameOf(method));
        }

        @Override
        public Void visitMethod(MethodTree tree, Void none) {
            Element method = trees.getElement(getCurrentPath());
            CALLS.computeIfAbsent(nameOf(method), key -> new TreeSet<>());
            boolean ofFace = method.getEnclosingElement().getSimpleName().contentEquals("FormPlaces");
            if (ofFace && method.getModifiers().contains(Modifier.PUBLIC)) OPEN_TO_ALL.add(nameOf(method));
            if (tree.getParameters().size() > MOST_PARAMETERS) tellWrong("rule 11: parameters of " + nameOf(method));
            return super.visitMethod(tree, none);
        }

        @Override
        public Void visitMethodInvocation(MethodInvocationTree tree, Void none) {
            Element method = trees.getElement(new TreePath(getCurrentPath(), tree.getMethodSelect()));
            boolean parentMade = method.getKind() == ElementKind.CONSTRUCTOR;
            if (!parentMade && !isOwn(method) && !LIBRARY.contains(nameOf(method))) tellWrong("rule 4: " + nameOf(method));
            keepCall(method);
            return super.visitMethodInvocation(tree, none);
        }

        @Override
        public Void visitNewClass(NewClassTree tree, Void none) {
            Element made = trees.getElement(getCurrentPath());
            if (!isOwn(made)) tellWrong("rule 4: new " + nameOf(made));
            onlyWhenMade("an object");
            keepCall(made);
            return super.visitNewClass(tree, none);
        }

        @Override
        public Void visitNewArray(NewArrayTree tree, Void none) {
            onlyWhenMade("an array");
            return super.visitNewArray(tree, none);
        }

        /** One run's objects are counted; so all of them are made with the object of the face, none by a call. */
        private void onlyWhenMade(String what) {
            if (here() != null && here().getKind() != ElementKind.CONSTRUCTOR) tellWrong("rule 12: " + nameOf(here()) + " makes " + what);
        }

        @Override
        public Void visitForLoop(ForLoopTree tree, Void none) {
            String condition = String.valueOf(tree.getCondition());
            boolean bounded = tree.getInitializer().size() == 1 && tree.getUpdate().size() == 1 && condition.matches(".*(<|>=).*");
            if (!bounded) tellWrong("rule 9: for (.. " + condition + " ..)");
            return super.visitForLoop(tree, none);
        }

        @Override
        public Void visitWhileLoop(WhileLoopTree tree, Void none) {
            tellWrong("rule 9: a loop without a counter of its own: " + tree.getCondition());
            return super.visitWhileLoop(tree, none);
        }

        @Override
        public Void visitDoWhileLoop(DoWhileLoopTree tree, Void none) {
            tellWrong("rule 9: a loop without a counter of its own: " + tree.getCondition());
            return super.visitDoWhileLoop(tree, none);
        }
    }
}
