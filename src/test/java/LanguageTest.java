import com.sun.source.tree.*;
import com.sun.source.util.JavacTask;
import com.sun.source.util.TreePath;
import com.sun.source.util.TreePathScanner;
import com.sun.source.util.Trees;
import java.lang.reflect.Method;
import java.lang.reflect.Modifier;
import java.nio.file.Path;
import java.util.ArrayList;
import java.util.HashMap;
import java.util.LinkedHashMap;
import java.util.LinkedHashSet;
import java.util.List;
import java.util.Map;
import java.util.Random;
import java.util.Set;
import javax.lang.model.element.Element;
import javax.lang.model.element.ExecutableElement;
import javax.lang.model.element.TypeElement;
import javax.tools.JavaCompiler;
import javax.tools.StandardJavaFileManager;
import javax.tools.ToolProvider;

/** The rules of LANGUAGE.md, looked up in the tree that the compiler makes of the program. */
public final class LanguageTest extends TreePathScanner<Void, Void> {
    private static final Check check = new Check();
    private static final Set<Tree.Kind> LEFT_OUT = Set.of(Tree.Kind.LAMBDA_EXPRESSION, Tree.Kind.MEMBER_REFERENCE,
        Tree.Kind.THROW, Tree.Kind.TRY, Tree.Kind.SYNCHRONIZED, Tree.Kind.ASSERT, Tree.Kind.WHILE_LOOP,
        Tree.Kind.DO_WHILE_LOOP, Tree.Kind.LABELED_STATEMENT, Tree.Kind.PACKAGE, Tree.Kind.IMPORT,
        Tree.Kind.ANNOTATION, Tree.Kind.PARAMETERIZED_TYPE, Tree.Kind.TYPE_CAST);
    private static final Set<String> NUMBERS = Set.of("int", "long", "short", "byte", "char", "boolean", "void");
    private static final Set<String> LIBRARY = Set.of("java.lang.Math.min(int,int)", "java.lang.Math.max(int,int)",
        "java.lang.System.arraycopy(java.lang.Object,int,java.lang.Object,int,int)", "java.lang.Object.Object()");
    private static final int MOST_LINES = 60, MOST_PARAMETERS = 7, MOST_CLASSES = 12, MOST_FIELDS = 20, DEEPEST = 8;

    private final CompilationUnitTree unit;
    private final Trees trees;
    private final Map<String, Set<String>> calls = new LinkedHashMap<>();
    private final Map<String, Integer> depths = new HashMap<>();
    private final List<String> classes = new ArrayList<>();
    private String method = "";

    private LanguageTest(CompilationUnitTree unit, Trees trees) {
        this.unit = unit;
        this.trees = trees;
    }

    public static void main(String[] args) throws Exception {
        JavaCompiler compiler = ToolProvider.getSystemJavaCompiler();
        check.holds("the compiler is there", compiler != null);
        if (compiler != null) {
            try (StandardJavaFileManager files = compiler.getStandardFileManager(null, null, null)) {
                JavacTask task = (JavacTask) compiler.getTask(null, files, null, List.of("--release", "17"), null,
                    files.getJavaFileObjects(Path.of("src/main/java/BlockTruths.java")));
                for (CompilationUnitTree unit : task.parse()) {
                    task.analyze();
                    new LanguageTest(unit, Trees.instance(task)).look();
                }
            }
        }
        noCallThrows();
        check.end("LanguageTest");
    }

    private void look() {
        check.due("one class in the file", unit.getTypeDecls().size(), 1);
        scan(new TreePath(unit), null);
        check.holds("classes were seen", !classes.isEmpty());
        check.holds("rule 11: the file has at most some twelve classes", classes.size() <= MOST_CLASSES);
        int deepest = 0;
        for (String from : calls.keySet()) {
            deepest = Math.max(deepest, depthOf(from, 0));
        }
        System.out.println("calls go " + deepest + " deep in " + calls.size() + " methods of " + classes.size() + " classes");
        check.holds("rule 11: calls go at most eight deep, and no method calls itself", deepest <= DEEPEST);
    }

    /** How many calls stand open at once, this one too; far more than allowed where a method calls itself. */
    private int depthOf(String from, int above) {
        if (above > 100) {
            return above;
        }
        if (depths.containsKey(from)) {
            return depths.get(from);
        }
        int deepest = 0;
        for (String to : calls.getOrDefault(from, Set.of())) {
            deepest = Math.max(deepest, depthOf(to, above + 1));
        }
        depths.put(from, deepest + 1);
        return deepest + 1;
    }

    @Override
    public Void scan(Tree tree, Void nothing) {
        if (tree != null) {
            boolean byteOfTerm = tree.toString().matches("\\(byte\\)\\w+|\\(long\\)x|\\(int\\)made");
            check.holds("rules 2, 6, 9: no " + tree.getKind() + ": " + tree.toString().lines().findFirst().orElse(""),
                !LEFT_OUT.contains(tree.getKind()) || byteOfTerm);
        }
        return super.scan(tree, nothing);
    }

    @Override
    public Void visitClass(ClassTree tree, Void nothing) {
        String name = tree.getSimpleName().toString();
        Tree around = getCurrentPath().getParentPath().getLeaf();
        classes.add(name);
        check.holds("rule 2: " + name + " is a plain class", tree.getKind() == Tree.Kind.CLASS && !name.isEmpty());
        check.holds("rule 2: " + name + " lies in no method", around instanceof CompilationUnitTree || around instanceof ClassTree);
        check.holds("rule 2: " + name + " is static and final", around instanceof CompilationUnitTree
            || tree.getModifiers().toString().matches("private static final\\s*"));
        int fields = 0;
        for (Tree member : tree.getMembers()) {
            check.holds("rule 5: no initialiser block in " + name, member.getKind() != Tree.Kind.BLOCK);
            if (member instanceof VariableTree && !isStatic((VariableTree) member)) {
                fields++;
            }
        }
        check.holds("rule 11: " + name + " has at most some twenty fields", fields <= MOST_FIELDS);
        return super.visitClass(tree, nothing);
    }

    private static boolean isStatic(VariableTree tree) {
        return tree.getModifiers().getFlags().contains(javax.lang.model.element.Modifier.STATIC);
    }

    @Override
    public Void visitVariable(VariableTree tree, Void nothing) {
        typeIsAllowed(tree.getName().toString(), tree.getType());
        if (isStatic(tree)) {
            boolean isFinal = tree.getModifiers().getFlags().contains(javax.lang.model.element.Modifier.FINAL);
            check.holds("rule 5: " + tree.getName() + " is a final int", isFinal && tree.getType().toString().equals("int"));
            check.holds("rule 5: " + tree.getName() + " is a constant", tree.getInitializer() != null);
        }
        return super.visitVariable(tree, nothing);
    }

    private void typeIsAllowed(String of, Tree type) {
        String name = type == null ? "void" : type.toString();
        boolean own = name.replace("[]", "").matches("Summary|Block|Store|Question|RowJudge|RangeJudge|RowKeys|Tally");
        boolean number = NUMBERS.contains(name.replace("[]", ""));
        boolean flat = !name.contains("[][]") || name.equals("int[][]");
        check.holds("rule 3: " + of + " is of type " + name, (own || number) && flat);
    }

    @Override
    public Void visitMethod(MethodTree tree, Void nothing) {
        String before = method;
        method = trees.getElement(getCurrentPath()).getEnclosingElement() + "." + trees.getElement(getCurrentPath());
        calls.put(method, new LinkedHashSet<>());
        typeIsAllowed(method, tree.getReturnType());
        check.holds("rule 11: " + method + " takes at most seven", tree.getParameters().size() <= MOST_PARAMETERS);
        check.holds("rule 6: " + method + " throws nothing", tree.getThrows().isEmpty());
        check.holds("rule 11: " + method + " is short", linesOf(tree) <= MOST_LINES);
        super.visitMethod(tree, nothing);
        method = before;
        return null;
    }

    private long linesOf(Tree tree) {
        LineMap lines = unit.getLineMap();
        long begin = trees.getSourcePositions().getStartPosition(unit, tree);
        long end = trees.getSourcePositions().getEndPosition(unit, tree);
        return end < begin ? 0 : lines.getLineNumber(end) - lines.getLineNumber(begin) + 1;
    }

    @Override
    public Void visitMethodInvocation(MethodInvocationTree tree, Void nothing) {
        noteCall(trees.getElement(new TreePath(getCurrentPath(), tree.getMethodSelect())));
        return super.visitMethodInvocation(tree, nothing);
    }

    @Override
    public Void visitNewClass(NewClassTree tree, Void nothing) {
        check.holds("rule 2: no class without a name", tree.getClassBody() == null);
        check.holds("rule 12: only constructors and image make objects, not " + method, mayMake());
        noteCall(trees.getElement(getCurrentPath()));
        return super.visitNewClass(tree, nothing);
    }

    @Override
    public Void visitNewArray(NewArrayTree tree, Void nothing) {
        check.holds("rule 12: only constructors make rows, not " + method, mayMake());
        return super.visitNewArray(tree, nothing);
    }

    private boolean mayMake() {
        String own = method.replaceAll("^.*\\.(\\w+\\(.*)$", "$1");
        String of = method.replaceAll("^.*?(\\w+)\\.\\w+\\(.*$", "$1");
        return own.startsWith(of + "(") || own.equals("image(int)");
    }

    private void noteCall(Element called) {
        check.holds("what is called in " + method + " is known", called instanceof ExecutableElement);
        String of = ((TypeElement) called.getEnclosingElement()).getQualifiedName().toString();
        String name = of + "." + (called.getSimpleName().contentEquals("<init>")
            ? called.toString().replace("<init>", of) : called.toString());
        if (of.startsWith("BlockTruths")) {
            calls.computeIfAbsent(method, m -> new LinkedHashSet<>()).add(name);
        } else {
            check.holds("rule 4: the library has " + name, LIBRARY.contains(name));
        }
    }

    /** A divisor is a number that is not 0, or one of which the method has said before that it is not less than 1. */
    @Override
    public Void visitBinary(BinaryTree tree, Void nothing) {
        if (tree.getKind() == Tree.Kind.DIVIDE || tree.getKind() == Tree.Kind.REMAINDER) {
            String divisor = tree.getRightOperand().toString();
            TreePath around = getCurrentPath();
            while (around != null && !(around.getLeaf() instanceof MethodTree)) {
                around = around.getParentPath();
            }
            String body = around == null ? "" : around.getLeaf().toString();
            int looked = body.indexOf(divisor + " < 1");
            check.holds("rule 7: " + tree + " looks at its divisor first",
                divisor.matches("[1-9]\\d*") || looked >= 0 && looked < body.indexOf(tree.toString()));
        }
        return super.visitBinary(tree, nothing);
    }

    /** A counter against a bound, changed by the loop's own lines alone. */
    @Override
    public Void visitForLoop(ForLoopTree tree, Void nothing) {
        String head = tree.getInitializer() + " " + tree.getCondition() + " " + tree.getUpdate();
        boolean counts = head.matches("int (\\w+) = .* \\1 (<=?) [\\w.]+ \\1\\+\\+;?")
            || head.matches("int (\\w+) = .* \\1 >= 0 \\1--;?");
        check.holds("rule 9: the end of this loop can be seen: " + head, counts);
        String counter = head.replaceAll("^int (\\w+) .*$", "$1");
        String body = tree.getStatement().toString();
        check.holds("rule 9: the loop leaves its counter alone: " + head,
            !body.matches("(?s).*(\\b" + counter + "\\b\\s*([-+*/|&]?=[^=]|\\+\\+|--)|(\\+\\+|--)" + counter + "\\b).*"));
        return super.visitForLoop(tree, nothing);
    }

    /** Rule 7: no call throws, for any arguments in any state. */
    private static void noCallThrows() {
        List<Method> all = new ArrayList<>();
        for (Method one : BlockTruths.class.getDeclaredMethods()) {
            if (Modifier.isPublic(one.getModifiers())) {
                all.add(one);
            }
        }
        all.sort((one, other) -> one.getName().compareTo(other.getName()));
        Random random = new Random(9);
        for (int run = 0; run < 1500; run++) {
            BlockTruths x = new BlockTruths();
            for (int i = 0; i < 511; i++) {
                Method one = i % 3 == 0 ? named(all, i % 2 == 0 ? "add" : "say") : all.get(random.nextInt(all.size()));
                Object[] arguments = argumentsOf(one, random);
                try {
                    one.invoke(x, arguments);
                } catch (ReflectiveOperationException wrong) {
                    check.holds("rule 7: " + one.getName() + List.of(arguments) + " threw " + wrong.getCause(), false);
                }
            }
            check.holds("it still tells its signs", x.told(0) >= 0);
        }
    }

    private static Method named(List<Method> all, String name) {
        return all.stream().filter(one -> one.getName().equals(name)).findFirst().orElseThrow();
    }

    private static Object[] argumentsOf(Method one, Random random) {
        String signs = "<=&|!m<=~y%+-*#aabcd0123456789";
        int[] odd = {Integer.MIN_VALUE, Integer.MAX_VALUE, Integer.MIN_VALUE + 9, Integer.MAX_VALUE - 9, -1, 60, 127, -1000, 1001};
        Object[] arguments = new Object[one.getParameterCount()];
        for (int i = 0; i < arguments.length; i++) {
            int usual = one.getName().equals("add") && i > 0 ? random.nextInt(2000) - 999 : random.nextInt(8) - random.nextInt(2);
            if (one.getName().equals("say")) {
                usual = signs.charAt(random.nextInt(signs.length()));
            }
            arguments[i] = random.nextInt(12) == 0 ? odd[random.nextInt(odd.length)] : usual;
        }
        return arguments;
    }
}
