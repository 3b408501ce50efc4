import com.sun.source.tree.AssertTree;
import com.sun.source.tree.BinaryTree;
import com.sun.source.tree.BlockTree;
import com.sun.source.tree.ClassTree;
import com.sun.source.tree.CompilationUnitTree;
import com.sun.source.tree.CompoundAssignmentTree;
import com.sun.source.tree.ExpressionTree;
import com.sun.source.tree.LambdaExpressionTree;
import com.sun.source.tree.MemberReferenceTree;
import com.sun.source.tree.MethodInvocationTree;
import com.sun.source.tree.MethodTree;
import com.sun.source.tree.NewArrayTree;
import com.sun.source.tree.NewClassTree;
import com.sun.source.tree.SynchronizedTree;
import com.sun.source.tree.ThrowTree;
import com.sun.source.tree.Tree;
import com.sun.source.tree.TryTree;
import com.sun.source.tree.VariableTree;
import com.sun.source.util.JavacTask;
import com.sun.source.util.TreePathScanner;
import com.sun.source.util.Trees;
import java.nio.file.Path;
import java.util.ArrayDeque;
import java.util.ArrayList;
import java.util.Arrays;
import java.util.Deque;
import java.util.HashSet;
import java.util.List;
import java.util.Map;
import java.util.Set;
import java.util.TreeMap;
import java.util.TreeSet;
import javax.lang.model.element.Element;
import javax.lang.model.element.ExecutableElement;
import javax.lang.model.element.Modifier;
import javax.lang.model.type.TypeMirror;
import javax.tools.JavaCompiler;
import javax.tools.StandardJavaFileManager;
import javax.tools.ToolProvider;

/** Rules of LANGUAGE.md that can be seen in the source as the compiler reads it: its types, its calls and how deep they go. */
public final class LanguageTreeTest {

    private static final Set<String> LIBRARY = new HashSet<>(Arrays.asList(
        "String.length", "String.charAt", "String.isEmpty", "String.equals", "String.indexOf", "String.substring",
        "String.toCharArray", "Integer.bitCount", "Integer.compare", "Long.compare", "Math.max", "Math.min", "Math.abs",
        "Math.floorDiv", "Math.floorMod", "System.arraycopy", "Arrays.copyOf", "Arrays.copyOfRange", "Arrays.fill"));

    private static final Set<String> TYPES = new HashSet<>(Arrays.asList(
        "int", "long", "short", "byte", "char", "boolean", "java.lang.String"));

    private static final int DEEPEST = 8;

    private static int wrong;

    /** What each method of the class calls, the library's too. */
    private final Map<String, Set<String>> calls = new TreeMap<>();
    private final Set<String> shut = new HashSet<>();
    private final Trees trees;

    private LanguageTreeTest(Trees trees) {
        this.trees = trees;
    }

    private static void must(boolean holds, String what) {
        if (!holds) {
            wrong++;
            System.out.println("not so: " + what);
        }
    }

    public static void main(String[] args) throws Exception {
        JavaCompiler javac = ToolProvider.getSystemJavaCompiler();
        StandardJavaFileManager files = javac.getStandardFileManager(null, null, null);
        JavacTask task = (JavacTask) javac.getTask(null, files, null, List.of("-proc:none"), null,
            files.getJavaFileObjects(Path.of("src/main/java/CoachWaits.java")));
        LanguageTreeTest test = new LanguageTreeTest(Trees.instance(task));
        Iterable<? extends CompilationUnitTree> units = task.parse();
        task.analyze();
        for (CompilationUnitTree unit : units) {
            must(unit.getTypeDecls().size() == 1, "one class in the file");
            test.new Reading().scan(unit, null);
        }
        must(test.calls.size() > 100, "all methods were read, not " + test.calls.size());
        test.depths();
        System.out.println(wrong == 0 ? "the source keeps to the language" : wrong + " rules are not kept");
        if (wrong != 0) {
            System.exit(1);
        }
    }

    private static String nameOf(Element e) {
        return e.getEnclosingElement().getSimpleName() + "." + e;
    }

    private static boolean isOwn(Element e) {
        return e.getEnclosingElement().toString().startsWith("CoachWaits");
    }

    private static boolean isOwn(String type) {
        return type.equals("CoachWaits") || type.startsWith("CoachWaits.");
    }

    private final class Reading extends TreePathScanner<Void, Void> {
        private final Deque<String> within = new ArrayDeque<>();

        private void refuse(String rule, Tree t) {
            String s = t.toString();
            must(false, rule + ": " + s.substring(0, Math.min(80, s.length())));
        }

        private Element element() {
            return trees.getElement(getCurrentPath());
        }

        private String typeOf(Tree t) {
            TypeMirror type = trees.getTypeMirror(new com.sun.source.util.TreePath(getCurrentPath(), t));
            return type == null ? "" : type.toString();
        }

        @Override public Void visitClass(ClassTree t, Void v) {
            must(within.isEmpty(), "no class within a method: " + t.getSimpleName());
            return super.visitClass(t, v);
        }

        @Override public Void visitBlock(BlockTree t, Void v) {
            must(!(getCurrentPath().getParentPath().getLeaf() instanceof ClassTree), "no initialiser block");
            return super.visitBlock(t, v);
        }

        @Override public Void visitMethod(MethodTree t, Void v) {
            String name = nameOf(element());
            calls.putIfAbsent(name, new TreeSet<>());
            if (element().getModifiers().contains(Modifier.PRIVATE)) {
                shut.add(name);
            }
            must(!Arrays.asList("equals", "hashCode", "toString").contains(t.getName().toString()), "no " + t.getName());
            within.push(name);
            super.visitMethod(t, v);
            within.pop();
            return null;
        }

        @Override public Void visitMethodInvocation(MethodInvocationTree t, Void v) {
            ExecutableElement called = (ExecutableElement) element();
            boolean isConstructor = called.getSimpleName().contentEquals("<init>");
            if (!isConstructor) {
                String library = called.getEnclosingElement().getSimpleName() + "." + called.getSimpleName();
                must(isOwn(called) || LIBRARY.contains(library), "rule 4, the library: " + library);
                must(!within.isEmpty(), "no call in an initialiser: " + library);
                if (!within.isEmpty()) {
                    calls.get(within.peek()).add(nameOf(called));
                }
            }
            return super.visitMethodInvocation(t, v);
        }

        @Override public Void visitVariable(VariableTree t, Void v) {
            TypeMirror type = trees.getTypeMirror(getCurrentPath());
            String bare = type.toString().replace("[]", "");
            must(TYPES.contains(bare) || isOwn(bare), "rule 3, a type: " + type + " " + t.getName());
            boolean isArray = type.toString().endsWith("[]");
            must(!element().getModifiers().contains(Modifier.STATIC) || !isOwn(bare) && !isArray, "rule 5: " + t);
            return super.visitVariable(t, v);
        }

        @Override public Void visitNewClass(NewClassTree t, Void v) {
            must(t.getClassBody() == null, "rule 2, an anonymous class");
            mustBeMadeWithTheObject(t);
            return super.visitNewClass(t, v);
        }

        @Override public Void visitNewArray(NewArrayTree t, Void v) {
            mustBeMadeWithTheObject(t);
            must(t.getDimensions().size() < 2, "rows of one dimension: " + t);
            return super.visitNewArray(t, v);
        }

        /** All calls of a run share one room: what is made is made in constructors. */
        private void mustBeMadeWithTheObject(Tree t) {
            boolean inConstructor = within.isEmpty() || within.peek().matches("(\\w+)\\.\\1\\(.*");
            must(inConstructor, "made with the object, not in " + within.peek() + ": " + t);
        }

        @Override public Void visitBinary(BinaryTree t, Void v) {
            boolean text = isText(t.getLeftOperand()) || isText(t.getRightOperand());
            must(!text, "rules 6 and 10, a text in " + t);
            return super.visitBinary(t, v);
        }

        private boolean isText(ExpressionTree t) {
            return typeOf(t).equals("java.lang.String");
        }

        @Override public Void visitCompoundAssignment(CompoundAssignmentTree t, Void v) {
            must(!isText(t.getVariable()), "rule 10, a text in " + t);
            return super.visitCompoundAssignment(t, v);
        }

        @Override public Void visitLambdaExpression(LambdaExpressionTree t, Void v) {
            refuse("rule 2", t);
            return null;
        }

        @Override public Void visitMemberReference(MemberReferenceTree t, Void v) {
            refuse("rule 2", t);
            return null;
        }

        @Override public Void visitThrow(ThrowTree t, Void v) {
            refuse("rule 6", t);
            return null;
        }

        @Override public Void visitTry(TryTree t, Void v) {
            refuse("rule 6", t);
            return null;
        }

        @Override public Void visitSynchronized(SynchronizedTree t, Void v) {
            refuse("rule 6", t);
            return null;
        }

        @Override public Void visitAssert(AssertTree t, Void v) {
            refuse("rule 6", t);
            return null;
        }
    }

    // ---- how deep calls go

    /** Those that a method can come to, itself too only if it can come back to itself. */
    private Set<String> reached(String from) {
        Set<String> seen = new HashSet<>();
        Deque<String> left = new ArrayDeque<>(calls.getOrDefault(from, Set.of()));
        while (!left.isEmpty()) {
            String m = left.pop();
            if (seen.add(m)) {
                left.addAll(calls.getOrDefault(m, Set.of()));
            }
        }
        return seen;
    }

    private void depths() {
        Map<String, Set<String>> reach = new TreeMap<>();
        for (String m : calls.keySet()) {
            reach.put(m, reached(m));
        }
        Map<String, List<String>> longest = new TreeMap<>();
        for (String m : calls.keySet()) {
            List<String> way = way(m, reach, longest);
            must(way.size() <= DEEPEST, "rule 11, calls go eight deep at most: " + way);
            must(!reach.get(m).contains(m) || shut.contains(m), "rule 8, only private methods come back to themselves: " + m);
        }
    }

    /** The longest way of calls from a method on; methods that call one another count once. */
    private List<String> way(String m, Map<String, Set<String>> reach, Map<String, List<String>> longest) {
        if (longest.containsKey(m)) {
            return longest.get(m);
        }
        Set<String> together = new TreeSet<>(Set.of(m));
        for (String o : reach.getOrDefault(m, Set.of())) {
            if (reach.getOrDefault(o, Set.of()).contains(m)) {
                together.add(o);
            }
        }
        List<String> best = new ArrayList<>();
        for (String o : together) {
            for (String next : calls.getOrDefault(o, Set.of())) {
                if (!together.contains(next)) {
                    List<String> behind = way(next, reach, longest);
                    best = behind.size() > best.size() ? behind : best;
                }
            }
        }
        List<String> all = new ArrayList<>(best);
        all.add(0, m);
        longest.put(m, all);
        return all;
    }
}
