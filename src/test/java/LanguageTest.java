import com.sun.source.tree.BlockTree;
import com.sun.source.tree.ClassTree;
import com.sun.source.tree.CompilationUnitTree;
import com.sun.source.tree.IdentifierTree;
import com.sun.source.tree.MemberSelectTree;
import com.sun.source.tree.MethodInvocationTree;
import com.sun.source.tree.MethodTree;
import com.sun.source.tree.NewArrayTree;
import com.sun.source.tree.NewClassTree;
import com.sun.source.tree.Tree;
import com.sun.source.tree.VariableTree;
import com.sun.source.util.JavacTask;
import com.sun.source.util.SourcePositions;
import com.sun.source.util.TreePath;
import com.sun.source.util.TreePathScanner;
import com.sun.source.util.Trees;
import java.io.IOException;
import java.nio.file.Path;
import java.util.ArrayList;
import java.util.HashSet;
import java.util.List;
import java.util.Map;
import java.util.Set;
import java.util.TreeMap;
import java.util.TreeSet;
import javax.lang.model.element.Element;
import javax.lang.model.element.ElementKind;
import javax.lang.model.element.Modifier;
import javax.tools.JavaCompiler;
import javax.tools.StandardJavaFileManager;
import javax.tools.ToolProvider;

/** What of LANGUAGE.md only the compiler's own tree of the class can show: how deep calls go, what is made where, how long all is. */
public final class LanguageTest {
    private static final Path SOURCE = Path.of("src/main/java/HandedSlips.java");
    private static final int DEEPEST_CALLS = 8;
    private static final int LONGEST_METHOD = 60;
    private static final int MOST_FIELDS = 20;
    private static final int MOST_CLASSES = 12;
    private static final int MOST_PARAMETERS = 7;

    private static final Set<String> OWN_LIBRARY = Set.of("Math.min", "Math.max", "Integer.bitCount", "Arrays.fill",
        "System.arraycopy", "String.length", "String.charAt");

    private static final Checks c = new Checks();

    public static void main(String[] args) throws IOException {
        Walk walk = new Walk();
        JavaCompiler compiler = ToolProvider.getSystemJavaCompiler();
        try (StandardJavaFileManager files = compiler.getStandardFileManager(null, null, null)) {
            JavacTask task = (JavacTask) compiler.getTask(null, files, null, List.of("-proc:none"), null, files.getJavaFileObjects(SOURCE));
            Iterable<? extends CompilationUnitTree> units = task.parse();
            task.analyze();
            walk.trees = Trees.instance(task);
            for (CompilationUnitTree unit : units) {
                walk.unit = unit;
                walk.scan(unit, null);
            }
        }
        sizes(walk);
        for (String method : walk.calls.keySet()) {
            List<String> chain = deepestChain(walk.calls, method, new HashSet<>());
            c.holds("rule 11: " + DEEPEST_CALLS + " deep at most: " + String.join(" > ", chain), chain.size() <= DEEPEST_CALLS);
        }
        making(walk);
        library(walk);
        c.end();
    }

    private static void sizes(Walk walk) {
        c.holds("rule 11: some twelve classes: " + walk.fields.keySet(), walk.fields.size() <= MOST_CLASSES);
        walk.fields.forEach((name, fields) -> c.holds("rule 11: fields of " + name + ": " + fields, fields <= MOST_FIELDS));
        walk.lines.forEach((name, lines) -> c.holds("rule 11: lines of " + name + ": " + lines, lines <= LONGEST_METHOD));
        walk.parameters.forEach((name, many) -> c.holds("rule 11: parameters of " + name + ": " + many, many <= MOST_PARAMETERS));
        c.holds("rule 8: there are methods to look at", walk.calls.size() > 100);
    }

    /** No call makes an object: what is made is made where a HandedSlips is made. */
    private static void making(Walk walk) {
        c.holds("rule 12: something is made: " + walk.makers, !walk.makers.isEmpty());
        for (String maker : walk.makers) {
            c.holds("rule 12: " + maker + " makes objects as they are made alone", maker.endsWith(".<init>"));
        }
    }

    /** What is called stands in the file or is one of the few that it needs; so are the types. */
    private static void library(Walk walk) {
        for (Set<String> called : walk.calls.values()) {
            for (String method : called) {
                c.holds("rule 4: " + method, walk.calls.containsKey(method) || OWN_LIBRARY.contains(method));
            }
        }
        for (String type : walk.types) {
            String part = type.replaceFirst("^HandedSlips\\.", "");
            boolean numbers = type.matches("(int|long|byte|boolean)(\\[\\]){0,2}");
            c.holds("rule 3: " + type, numbers || type.equals("java.lang.String") || walk.fields.containsKey(part));
        }
        c.holds("rule 3: there are types to look at", walk.types.contains("int[][]") && walk.types.contains("HandedSlips.Tower"));
    }

    /** The longest chain of calls from a method on, the library's own at its end too; a call of one that is open is recursion. */
    private static List<String> deepestChain(Map<String, Set<String>> calls, String method, Set<String> open) {
        List<String> best = new ArrayList<>();
        c.holds("rule 8: " + method + " doesn't call itself", open.add(method));
        if (open.size() <= 100) {
            for (String called : calls.getOrDefault(method, Set.of())) {
                List<String> chain = open.contains(called) ? List.of(called) : deepestChain(calls, called, open);
                c.holds("rule 8: " + method + " doesn't come back to " + called, !open.contains(called));
                best = chain.size() > best.size() ? chain : best;
            }
        }
        open.remove(method);
        List<String> all = new ArrayList<>(List.of(method));
        all.addAll(best);
        return all;
    }

    /** Goes through the class's tree and keeps who calls whom, how much each holds, and who makes what. */
    private static final class Walk extends TreePathScanner<Void, Void> {
        private final Map<String, Set<String>> calls = new TreeMap<>();
        private final Map<String, Integer> fields = new TreeMap<>();
        private final Map<String, Integer> lines = new TreeMap<>();
        private final Map<String, Integer> parameters = new TreeMap<>();
        private final Set<String> makers = new TreeSet<>();
        private final Set<String> types = new TreeSet<>();
        private Trees trees;
        private CompilationUnitTree unit;

        @Override
        public Void visitClass(ClassTree tree, Void none) {
            int count = 0;
            for (Tree member : tree.getMembers()) {
                boolean field = member instanceof VariableTree v && !v.getModifiers().getFlags().contains(Modifier.STATIC);
                count += field ? 1 : 0;
                boolean block = member instanceof BlockTree;
                c.holds("rule 5: no initialiser block in " + tree.getSimpleName(), !block);
            }
            boolean outermost = getCurrentPath().getParentPath().getLeaf() instanceof CompilationUnitTree;
            c.holds("rule 2: " + tree.getSimpleName() + " is static", outermost || tree.getModifiers().getFlags().contains(Modifier.STATIC));
            fields.put(tree.getSimpleName().toString(), count);
            return super.visitClass(tree, none);
        }

        @Override
        public Void visitMethod(MethodTree tree, Void none) {
            SourcePositions places = trees.getSourcePositions();
            long start = unit.getLineMap().getLineNumber(places.getStartPosition(unit, tree));
            long end = unit.getLineMap().getLineNumber(places.getEndPosition(unit, tree));
            lines.put(around(), (int) (end - start) + 1);
            parameters.put(around(), tree.getParameters().size());
            calls.computeIfAbsent(around(), name -> new TreeSet<>());
            return super.visitMethod(tree, none);
        }

        @Override
        public Void visitVariable(VariableTree tree, Void none) {
            types.add(trees.getTypeMirror(new TreePath(getCurrentPath(), tree.getType())).toString());
            return super.visitVariable(tree, none);
        }

        @Override
        public Void visitMethodInvocation(MethodInvocationTree tree, Void none) {
            Tree selected = tree.getMethodSelect();
            boolean named = selected instanceof IdentifierTree || selected instanceof MemberSelectTree;
            c.holds("a call is by name: " + tree, named);
            Element called = trees.getElement(new TreePath(getCurrentPath(), selected));
            if (!tree.toString().equals("super()")) {
                calls.computeIfAbsent(around(), name -> new TreeSet<>()).add(nameOf(called));
            }
            return super.visitMethodInvocation(tree, none);
        }

        @Override
        public Void visitNewClass(NewClassTree tree, Void none) {
            makers.add(around());
            c.holds("rule 2: no class without a name: " + tree, tree.getClassBody() == null);
            calls.computeIfAbsent(around(), name -> new TreeSet<>()).add(nameOf(trees.getElement(getCurrentPath())));
            return super.visitNewClass(tree, none);
        }

        @Override
        public Void visitNewArray(NewArrayTree tree, Void none) {
            makers.add(around());
            return super.visitNewArray(tree, none);
        }

        /** The method that the tree at hand stands in; a field's first value is the constructor's. */
        private String around() {
            for (TreePath path = getCurrentPath(); path != null; path = path.getParentPath()) {
                if (path.getLeaf() instanceof MethodTree) {
                    return nameOf(trees.getElement(path));
                }
                if (path.getLeaf() instanceof ClassTree) {
                    return trees.getElement(path).getSimpleName() + ".<init>";
                }
            }
            return "?";
        }

        private static String nameOf(Element method) {
            boolean constructor = method.getKind() == ElementKind.CONSTRUCTOR;
            return method.getEnclosingElement().getSimpleName() + "." + (constructor ? "<init>" : method.getSimpleName());
        }
    }
}
