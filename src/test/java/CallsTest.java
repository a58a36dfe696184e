import com.sun.source.tree.ClassTree;
import com.sun.source.tree.CompilationUnitTree;
import com.sun.source.tree.MethodInvocationTree;
import com.sun.source.tree.MethodTree;
import com.sun.source.tree.NewArrayTree;
import com.sun.source.tree.NewClassTree;
import com.sun.source.tree.Tree;
import com.sun.source.tree.VariableTree;
import com.sun.source.util.JavacTask;
import com.sun.source.util.TreePath;
import com.sun.source.util.TreePathScanner;
import com.sun.source.util.Trees;
import java.nio.file.Path;
import java.util.HashSet;
import java.util.List;
import java.util.Map;
import java.util.Set;
import java.util.TreeMap;
import java.util.TreeSet;
import javax.lang.model.element.Element;
import javax.lang.model.element.ElementKind;
import javax.lang.model.element.Modifier;
import javax.tools.JavaCompiler;
import javax.tools.StandardJavaFileManager;
import javax.tools.ToolProvider;

/** Rules 4, 8, 11 and 12 of ../shared/LANGUAGE.md: who calls whom in the program, how deep, and what of the library. */
public final class CallsTest {
    private static final int DEEPEST = 8;
    private static final int MOST_FIELDS = 20;
    private static final Set<String> LIBRARY =
            Set.of("java.lang.Integer.bitCount", "java.lang.Math.min", "java.lang.Math.max", "java.lang.System.arraycopy");

    private final Due due = new Due("CallsTest");
    private final Map<String, Set<String>> callees = new TreeMap<>();
    private final Set<String> privates = new HashSet<>();
    private final Set<String> statics = new HashSet<>();
    private final Set<String> publics = new TreeSet<>();
    private final Set<String> outside = new TreeSet<>();
    private final Set<String> makers = new TreeSet<>();

    public static void main(String[] args) throws Exception {
        CallsTest test = new CallsTest();
        test.read(Path.of("src/main/java/FootLights.java"));
        test.onlyTheListedLibrary();
        test.recursionIsOfAListedForm();
        test.callsAreNotDeep();
        test.due.close();
    }

    private void read(Path path) throws Exception {
        JavaCompiler compiler = ToolProvider.getSystemJavaCompiler();
        try (StandardJavaFileManager files = compiler.getStandardFileManager(null, null, null)) {
            JavacTask task = (JavacTask) compiler.getTask(null, files, null, List.of("--release", "17"), null,
                    files.getJavaFileObjects(path));
            Iterable<? extends CompilationUnitTree> units = task.parse();
            task.analyze();
            Calls calls = new Calls(Trees.instance(task));
            for (CompilationUnitTree unit : units) {
                calls.scan(unit, null);
            }
        }
    }

    private final class Calls extends TreePathScanner<Void, Void> {
        private final Trees trees;
        private String caller = "";

        Calls(Trees trees) {
            this.trees = trees;
        }

        @Override
        public Void visitClass(ClassTree node, Void nothing) {
            int fields = 0;
            for (Tree member : node.getMembers()) {
                if (member.getKind() == Tree.Kind.VARIABLE) {
                    Element field = trees.getElement(new TreePath(getCurrentPath(), member));
                    fields += field.getModifiers().contains(Modifier.STATIC) ? 0 : 1;
                }
            }
            due.holds("some twenty fields: " + node.getSimpleName() + " has " + fields, fields <= MOST_FIELDS);
            return super.visitClass(node, nothing);
        }

        @Override
        public Void visitVariable(VariableTree node, Void nothing) {
            Element variable = trees.getElement(getCurrentPath());
            if (variable.getKind() == ElementKind.FIELD) {
                caller = variable.getEnclosingElement() + ".<init>";
            }
            return super.visitVariable(node, nothing);
        }

        @Override
        public Void visitMethod(MethodTree node, Void nothing) {
            Element method = trees.getElement(getCurrentPath());
            caller = nameOf(method);
            callees.computeIfAbsent(caller, k -> new TreeSet<>());
            if (method.getModifiers().contains(Modifier.PRIVATE)) {
                privates.add(caller);
            }
            if (method.getModifiers().contains(Modifier.STATIC)) {
                statics.add(caller);
            }
            if (method.getModifiers().contains(Modifier.PUBLIC)) {
                publics.add(caller);
            }
            return super.visitMethod(node, nothing);
        }

        @Override
        public Void visitMethodInvocation(MethodInvocationTree node, Void nothing) {
            note(trees.getElement(getCurrentPath()));
            return super.visitMethodInvocation(node, nothing);
        }

        @Override
        public Void visitNewClass(NewClassTree node, Void nothing) {
            makers.add(caller);
            note(trees.getElement(getCurrentPath()));
            return super.visitNewClass(node, nothing);
        }

        @Override
        public Void visitNewArray(NewArrayTree node, Void nothing) {
            makers.add(caller);
            return super.visitNewArray(node, nothing);
        }

        private void note(Element called) {
            String name = nameOf(called);
            boolean isOwn = name.startsWith("FootLights");
            if (isOwn) {
                callees.computeIfAbsent(caller, k -> new TreeSet<>()).add(name);
            } else if (!name.equals("java.lang.Object.<init>")) {
                outside.add(name);
            }
        }

        private String nameOf(Element method) {
            String plain = method.getKind() == ElementKind.CONSTRUCTOR ? "<init>" : method.getSimpleName().toString();
            return method.getEnclosingElement() + "." + plain;
        }
    }

    private void onlyTheListedLibrary() {
        for (String name : outside) {
            due.holds("the library has " + name, LIBRARY.contains(name));
        }
        for (String maker : makers) {
            due.holds("objects are made in constructors alone: " + maker, maker.endsWith("<init>"));
        }
    }

    /** A private static method that calls itself, or private methods that call one another. */
    private void recursionIsOfAListedForm() {
        Set<String> recursive = new TreeSet<>();
        for (String method : callees.keySet()) {
            if (reachable(method).contains(method)) {
                recursive.add(method);
                due.holds(method + " recurs and is private", privates.contains(method));
                due.holds(method + " calls itself and is static",
                        !callees.get(method).contains(method) || statics.contains(method));
            }
        }
        due.holds("the asks alone recur: " + recursive,
                recursive.equals(Set.of("FootLights.beginBody", "FootLights.bodyGives")));
    }

    private Set<String> reachable(String from) {
        Set<String> seen = new TreeSet<>();
        Set<String> edge = new TreeSet<>(callees.get(from));
        while (!edge.isEmpty()) {
            Set<String> next = new TreeSet<>();
            for (String method : edge) {
                if (seen.add(method)) {
                    next.addAll(callees.getOrDefault(method, Set.of()));
                }
            }
            edge = next;
        }
        return seen;
    }

    private void callsAreNotDeep() {
        due.holds("the face has calls and a constructor", publics.size() >= 37);
        for (String method : publics) {
            int deep = depth(method, new HashSet<>());
            due.holds(method + " goes " + deep + " deep", deep <= DEEPEST);
        }
    }

    /** How many calls stand open at most, a method that recurs counted once. */
    private int depth(String method, Set<String> open) {
        if (!open.add(method)) {
            return 0;
        }
        int deepest = 0;
        for (String callee : callees.getOrDefault(method, Set.of())) {
            deepest = Math.max(deepest, depth(callee, open));
        }
        open.remove(method);
        return deepest + 1;
    }
}
