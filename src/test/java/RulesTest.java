import com.sun.source.tree.ClassTree;
import com.sun.source.tree.CompilationUnitTree;
import com.sun.source.tree.ExpressionTree;
import com.sun.source.tree.LiteralTree;
import com.sun.source.tree.MethodInvocationTree;
import com.sun.source.tree.MethodTree;
import com.sun.source.tree.NewArrayTree;
import com.sun.source.tree.NewClassTree;
import com.sun.source.tree.ThrowTree;
import com.sun.source.tree.Tree;
import com.sun.source.util.JavacTask;
import com.sun.source.util.TreePathScanner;
import com.sun.source.util.Trees;
import java.io.IOException;
import java.nio.file.Path;
import java.util.HashMap;
import java.util.LinkedHashMap;
import java.util.LinkedHashSet;
import java.util.List;
import java.util.Map;
import java.util.Set;
import javax.lang.model.element.Element;
import javax.lang.model.element.Modifier;
import javax.tools.JavaCompiler;
import javax.tools.StandardJavaFileManager;
import javax.tools.ToolProvider;

/** The rules of LANGUAGE.md that need to know what each name in the program's text means. */
public final class RulesTest extends TreePathScanner<Void, Void> {
    private static final Path PROGRAM = Path.of("src/main/java/LockstepNet.java");
    private static final int DEEPEST = 8;
    private static final int MOST_LINES = 60;
    private static final int MOST_PARAMETERS = 7;

    private static final Set<String> LIBRARY = Set.of("java.util.Arrays.fill", "java.lang.System.arraycopy",
            "java.lang.Math.max", "java.lang.Integer.bitCount", "java.lang.Object.<init>");

    private static final Set<String> EXCEPTIONS = Set.of("IllegalStateException", "IllegalArgumentException",
            "IndexOutOfBoundsException", "ArithmeticException", "UnsupportedOperationException",
            "NoSuchElementException", "RuntimeException");

    private final Trees trees;
    private final CompilationUnitTree unit;
    private final Map<Element, Set<Element>> callsOf = new LinkedHashMap<>();
    private final Map<Element, Integer> depths = new HashMap<>();
    private final Set<NewClassTree> thrown = new LinkedHashSet<>();
    private Element inside = null;

    private RulesTest(Trees trees, CompilationUnitTree unit) {
        this.trees = trees;
        this.unit = unit;
    }

    public static void main(String[] args) throws IOException {
        JavaCompiler compiler = ToolProvider.getSystemJavaCompiler();
        try (StandardJavaFileManager files = compiler.getStandardFileManager(null, null, null)) {
            JavacTask task = (JavacTask) compiler.getTask(null, files, null, List.of("-proc:none"), null,
                    files.getJavaFileObjects(PROGRAM));
            CompilationUnitTree unit = task.parse().iterator().next();
            task.analyze();
            RulesTest rules = new RulesTest(Trees.instance(task), unit);
            rules.scan(unit, null);
            rules.depthOfCalls();
        }
        Checks.end();
    }

    @Override
    public Void visitMethod(MethodTree method, Void none) {
        inside = trees.getElement(getCurrentPath());
        callsOf.put(inside, new LinkedHashSet<>());
        Checks.due("rule 11: parameters of " + inside, true,
                method.getParameters().size() <= MOST_PARAMETERS);
        Checks.due("rule 11: lines of " + inside, true, linesOf(method) <= MOST_LINES);
        super.visitMethod(method, none);
        inside = null;
        return null;
    }

    private long linesOf(Tree tree) {
        long start = trees.getSourcePositions().getStartPosition(unit, tree);
        long end = trees.getSourcePositions().getEndPosition(unit, tree);
        return unit.getLineMap().getLineNumber(end) - unit.getLineMap().getLineNumber(start) + 1;
    }

    @Override
    public Void visitMethodInvocation(MethodInvocationTree call, Void none) {
        Element called = trees.getElement(getCurrentPath());
        String name = called.getEnclosingElement() + "." + called.getSimpleName();
        boolean own = name.startsWith("LockstepNet.");
        Checks.due("rule 4: " + name + " may be called", true, own || LIBRARY.contains(name));
        if (inside != null) {
            callsOf.get(inside).add(called);
        }
        return super.visitMethodInvocation(call, none);
    }

    @Override
    public Void visitThrow(ThrowTree statement, Void none) {
        ExpressionTree what = statement.getExpression();
        boolean isNew = what instanceof NewClassTree;
        Checks.due("rule 6: " + statement + " makes what it throws", true, isNew);
        Checks.due("rule 6: no throw in a constructor", false,
                inside.getSimpleName().contentEquals("<init>"));
        if (isNew) {
            NewClassTree made = (NewClassTree) what;
            thrown.add(made);
            Checks.due("rule 6: " + statement, true, EXCEPTIONS.contains(made.getIdentifier().toString()));
            for (ExpressionTree text : made.getArguments()) {
                Checks.due("rule 6: a written text in " + statement, true, text instanceof LiteralTree);
            }
        }
        return super.visitThrow(statement, none);
    }

    /** Nothing is made but in constructors, so that no run of calls can fill the room. */
    @Override
    public Void visitNewClass(NewClassTree made, Void none) {
        Checks.due("rule 12: " + made + " in " + inside, true, thrown.contains(made) || isMaking());
        Checks.due("rule 2: no anonymous class", true, made.getClassBody() == null);
        return super.visitNewClass(made, none);
    }

    @Override
    public Void visitNewArray(NewArrayTree made, Void none) {
        Checks.due("rule 12: " + made + " in " + inside, true, isMaking());
        return super.visitNewArray(made, none);
    }

    private boolean isMaking() {
        return inside == null || inside.getSimpleName().contentEquals("<init>");
    }

    @Override
    public Void visitClass(ClassTree type, Void none) {
        for (Tree member : type.getMembers()) {
            boolean isBlock = member.getKind() == Tree.Kind.BLOCK;
            Checks.due("rule 5: no initialiser block in " + type.getSimpleName(), false, isBlock);
        }
        return super.visitClass(type, none);
    }

    private void depthOfCalls() {
        for (Element method : callsOf.keySet()) {
            if (method.getModifiers().contains(Modifier.PUBLIC)) {
                Checks.due("rule 11: the calls below " + method + " go at most eight deep", true,
                        depthOf(method) <= DEEPEST);
            }
        }
    }

    /** A method that calls itself, straight or by others, would be deeper than any limit. */
    private int depthOf(Element method) {
        Integer known = depths.get(method);
        if (known != null) {
            return known;
        }
        depths.put(method, DEEPEST + 1);
        int deepest = 0;
        for (Element called : callsOf.getOrDefault(method, Set.of())) {
            deepest = Math.max(deepest, depthOf(called));
        }
        depths.put(method, deepest + 1);
        return deepest + 1;
    }
}
