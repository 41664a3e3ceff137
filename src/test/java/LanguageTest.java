import com.sun.source.tree.AssertTree;
import com.sun.source.tree.ClassTree;
import com.sun.source.tree.CompilationUnitTree;
import com.sun.source.tree.ExpressionTree;
import com.sun.source.tree.InstanceOfTree;
import com.sun.source.tree.LambdaExpressionTree;
import com.sun.source.tree.MemberReferenceTree;
import com.sun.source.tree.MethodInvocationTree;
import com.sun.source.tree.MethodTree;
import com.sun.source.tree.NewArrayTree;
import com.sun.source.tree.NewClassTree;
import com.sun.source.tree.SynchronizedTree;
import com.sun.source.tree.ThrowTree;
import com.sun.source.tree.Tree;
import com.sun.source.tree.TryTree;
import com.sun.source.tree.VariableTree;
import com.sun.source.util.JavacTask;
import com.sun.source.util.TreeScanner;
import com.sun.source.util.Trees;
import java.io.IOException;
import java.nio.file.Path;
import java.util.HashSet;
import java.util.List;
import java.util.Map;
import java.util.Set;
import java.util.TreeMap;
import java.util.TreeSet;
import javax.lang.model.element.Modifier;
import javax.tools.JavaCompiler;
import javax.tools.StandardJavaFileManager;
import javax.tools.ToolProvider;

/** The rules of LANGUAGE.md that can be counted in the source: it is read by the compiler, and its tree is walked. */
public final class LanguageTest {
    private static final Path SOURCE = Path.of("src/main/java/EndingIndex.java");
    private static final int DEEPEST = 6;
    private static final int MOST_LINES = 60;
    private static final int MOST_PARAMETERS = 7;
    private static final int MOST_FIELDS = 40;
    private static final Set<String> TYPES = Set.of("int", "long", "short", "byte", "char", "boolean",
        "int[]", "long[]", "short[]", "byte[]", "char[]", "boolean[]");

    private final Checks checks = new Checks();
    private final CompilationUnitTree file;
    private final Trees trees;
    private final ClassTree type;
    private final Map<String, MethodTree> methods = new TreeMap<>();
    private final Map<String, Set<String>> callsOf = new TreeMap<>();

    private LanguageTest(CompilationUnitTree file, Trees trees) {
        this.file = file;
        this.trees = trees;
        this.type = (ClassTree) file.getTypeDecls().get(0);
        for (Tree member : type.getMembers()) {
            if (member instanceof MethodTree method) {
                String name = method.getName().toString();
                checks.due("1: two methods have the name " + name, methods.put(name, method) == null ? 0 : 1, 0);
            }
        }
        for (String name : methods.keySet()) {
            callsOf.put(name, callsIn(methods.get(name)));
        }
    }

    public static void main(String[] args) throws IOException {
        JavaCompiler compiler = ToolProvider.getSystemJavaCompiler();
        try (StandardJavaFileManager files = compiler.getStandardFileManager(null, null, null)) {
            JavacTask task = (JavacTask) compiler.getTask(null, files, null, null, null,
                files.getJavaFileObjects(SOURCE));
            new LanguageTest(task.parse().iterator().next(), Trees.instance(task)).allRules();
        }
    }

    private void allRules() {
        rule1OneClassInTheFile();
        rule2OnlyNumbersAndArraysOfThem();
        rule4ArraysAreMadeInTheFields();
        rule6NothingThatIsLeftOut();
        rule8NoRecursion();
        rule10CallsAreNotTooDeep();
        rule10NoCallInsideArguments();
        rule10SmallMethodsAndFewFields();
        checks.finish("LanguageTest");
    }

    private void rule1OneClassInTheFile() {
        checks.due("1: classes", file.getTypeDecls().size(), 1);
        checks.due("1: package lines", file.getPackageName() == null ? 0 : 1, 0);
        checks.due("3: imports", file.getImports().size(), 0);
    }

    private void rule2OnlyNumbersAndArraysOfThem() {
        new TreeScanner<Void, Void>() {
            @Override
            public Void visitVariable(VariableTree variable, Void none) {
                String name = String.valueOf(variable.getType());
                checks.due("2: the type " + name + " of " + variable.getName(), TYPES.contains(name) ? 1 : 0, 1);
                return super.visitVariable(variable, none);
            }
        }.scan(type, null);
    }

    private void rule4ArraysAreMadeInTheFields() {
        Set<Tree> inFields = new HashSet<>();
        for (Tree member : type.getMembers()) {
            if (member instanceof VariableTree field && field.getInitializer() instanceof NewArrayTree made) {
                inFields.add(made);
                checks.due("5: static array " + field.getName(), isStatic(field) ? 1 : 0, 0);
            }
        }
        new TreeScanner<Void, Void>() {
            @Override
            public Void visitNewArray(NewArrayTree made, Void none) {
                checks.due("4: " + made + " in a field", inFields.contains(made) ? 1 : 0, 1);
                return super.visitNewArray(made, none);
            }

            @Override
            public Void visitNewClass(NewClassTree made, Void none) {
                checks.due("4: objects made by " + made, 1, 0);
                return super.visitNewClass(made, none);
            }
        }.scan(type, null);
    }

    private void rule6NothingThatIsLeftOut() {
        List<Class<? extends Tree>> leftOut = List.of(ThrowTree.class, TryTree.class, SynchronizedTree.class,
            AssertTree.class, InstanceOfTree.class, LambdaExpressionTree.class, MemberReferenceTree.class);
        new TreeScanner<Void, Void>() {
            @Override
            public Void scan(Tree tree, Void none) {
                for (Class<? extends Tree> kind : leftOut) {
                    checks.due("6: " + kind.getSimpleName() + " at " + tree, kind.isInstance(tree) ? 1 : 0, 0);
                }
                return super.scan(tree, none);
            }
        }.scan(type, null);
    }

    private void rule8NoRecursion() {
        for (String name : methods.keySet()) {
            Set<String> reached = new TreeSet<>();
            Set<String> next = callsOf.get(name);
            while (!next.isEmpty()) {
                Set<String> further = new TreeSet<>();
                for (String called : next) {
                    if (reached.add(called)) {
                        further.addAll(callsOf.get(called));
                    }
                }
                next = further;
            }
            checks.due("8: " + name + " comes to itself", reached.contains(name) ? 1 : 0, 0);
        }
    }

    // The call from outside counts as the first one, which is the stricter way to count.
    private void rule10CallsAreNotTooDeep() {
        for (String name : methods.keySet()) {
            Set<String> level = Set.of(name);
            for (int depth = 1; depth <= DEEPEST; depth++) {
                Set<String> below = new TreeSet<>();
                for (String called : level) {
                    below.addAll(callsOf.get(called));
                }
                level = below;
            }
            checks.due("10: " + name + " calls deeper than " + DEEPEST, level.toString(), "[]");
        }
    }

    private void rule10NoCallInsideArguments() {
        new TreeScanner<Void, Void>() {
            @Override
            public Void visitMethodInvocation(MethodInvocationTree call, Void none) {
                for (ExpressionTree argument : call.getArguments()) {
                    checks.due("10: calls in the arguments of " + call, callsIn(argument).toString(), "[]");
                }
                return super.visitMethodInvocation(call, none);
            }
        }.scan(type, null);
    }

    private void rule10SmallMethodsAndFewFields() {
        for (MethodTree method : methods.values()) {
            long lines = lineOf(method, true) - lineOf(method, false) + 1;
            checks.due("10: " + method.getName() + " is short", lines <= MOST_LINES ? 1 : 0, 1);
            int parameters = method.getParameters().size();
            checks.due("10: " + method.getName() + " takes few", parameters <= MOST_PARAMETERS ? 1 : 0, 1);
        }
        int fields = 0;
        for (Tree member : type.getMembers()) {
            if (member instanceof VariableTree field && !isStatic(field)) {
                fields++;
            }
        }
        checks.due("10: few fields", fields <= MOST_FIELDS ? 1 : 0, 1);
    }

    private long lineOf(Tree tree, boolean end) {
        long at = end ? trees.getSourcePositions().getEndPosition(file, tree)
            : trees.getSourcePositions().getStartPosition(file, tree);
        return file.getLineMap().getLineNumber(at);
    }

    private static boolean isStatic(VariableTree field) {
        return field.getModifiers().getFlags().contains(Modifier.STATIC);
    }

    /** The names of the class's own methods that are called; rule 3 leaves no others to call. */
    private Set<String> callsIn(Tree tree) {
        Set<String> names = new TreeSet<>();
        new TreeScanner<Void, Void>() {
            @Override
            public Void visitMethodInvocation(MethodInvocationTree call, Void none) {
                String name = call.getMethodSelect().toString();
                checks.due("3: " + call + " calls a method of the class", methods.containsKey(name) ? 1 : 0, 1);
                if (methods.containsKey(name)) {
                    names.add(name);
                }
                return super.visitMethodInvocation(call, none);
            }
        }.scan(tree, null);
        return names;
    }
}
