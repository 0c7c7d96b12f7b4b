import com.sun.source.tree.AssertTree;
import com.sun.source.tree.BinaryTree;
import com.sun.source.tree.ClassTree;
import com.sun.source.tree.CompilationUnitTree;
import com.sun.source.tree.DoWhileLoopTree;
import com.sun.source.tree.EnhancedForLoopTree;
import com.sun.source.tree.ForLoopTree;
import com.sun.source.tree.LambdaExpressionTree;
import com.sun.source.tree.MemberReferenceTree;
import com.sun.source.tree.MemberSelectTree;
import com.sun.source.tree.MethodInvocationTree;
import com.sun.source.tree.MethodTree;
import com.sun.source.tree.NewArrayTree;
import com.sun.source.tree.NewClassTree;
import com.sun.source.tree.SynchronizedTree;
import com.sun.source.tree.ThrowTree;
import com.sun.source.tree.Tree;
import com.sun.source.tree.TryTree;
import com.sun.source.tree.TypeCastTree;
import com.sun.source.tree.VariableTree;
import com.sun.source.tree.WhileLoopTree;
import com.sun.source.util.JavacTask;
import com.sun.source.util.TreePath;
import com.sun.source.util.TreePathScanner;
import com.sun.source.util.TreeScanner;
import com.sun.source.util.Trees;
import java.io.IOException;
import java.nio.file.Path;
import java.util.List;
import java.util.Map;
import java.util.Set;
import java.util.TreeMap;
import java.util.TreeSet;
import javax.lang.model.element.Element;
import javax.lang.model.element.ElementKind;
import javax.lang.model.element.Modifier;
import javax.lang.model.type.TypeMirror;
import javax.tools.JavaCompiler;
import javax.tools.ToolProvider;

/** The class as javac reads it, looked at by the rules of LANGUAGE.md, by their numbers; where it can, the test asks more. */
public final class LanguageTest extends TreePathScanner<Void, Void> {
    private static final Set<String> LIBRARY = Set.of("String.length", "String.charAt", "Integer.bitCount", "Math.min",
        "Math.max", "System.arraycopy");
    private static final String NUMBER = "(int|long|short|byte|char)";
    private static final String TYPES = NUMBER + "(\\[\\]){0,2}|boolean(\\[\\])?|void|java\\.lang\\.String"
        + "|MeetingGroups(\\.\\w+)?(\\[\\])?";
    private static final Set<Tree.Kind> BOUNDS = Set.of(Tree.Kind.LESS_THAN, Tree.Kind.LESS_THAN_EQUAL,
        Tree.Kind.GREATER_THAN, Tree.Kind.GREATER_THAN_EQUAL);

    private final Trees trees;
    private final CompilationUnitTree unit;
    private final Map<String, Set<String>> calls = new TreeMap<>();
    private int classes = 0;
    private static int looked = 0;
    private static int wrong = 0;

    private LanguageTest(Trees trees, CompilationUnitTree unit) {
        this.trees = trees;
        this.unit = unit;
    }

    public static void main(String[] args) throws Exception {
        JavaCompiler compiler = ToolProvider.getSystemJavaCompiler();
        try (var files = compiler.getStandardFileManager(null, null, null)) {
            var source = files.getJavaFileObjects(Path.of("src/main/java/MeetingGroups.java"));
            JavacTask task = (JavacTask) compiler.getTask(null, files, null, List.of("-proc:none"), null, source);
            CompilationUnitTree unit = task.parse().iterator().next();
            task.analyze();
            LanguageTest test = new LanguageTest(Trees.instance(task), unit);
            test.scan(unit, null);
            test.whole();
        }
        System.out.println(looked + " places, " + wrong + " outside the rules");
        if (wrong != 0) {
            System.exit(1);
        }
    }

    private void due(int rule, boolean so, String what) {
        looked++;
        if (!so) {
            wrong++;
            System.out.println("rule " + rule + ": " + what);
        }
    }

    private String line(Tree tree) {
        long at = trees.getSourcePositions().getStartPosition(unit, tree);
        return "line " + unit.getLineMap().getLineNumber(at);
    }

    private TypeMirror typeOf(Tree tree) {
        return trees.getTypeMirror(new TreePath(getCurrentPath(), tree));
    }

    private void hasType(Tree tree) {
        String type = String.valueOf(typeOf(tree));
        due(3, type.matches(TYPES), type + ", " + line(tree));
    }

    // ---- the whole file

    private void whole() throws IOException {
        due(4, unit.getSourceFile().getCharContent(false).chars().allMatch(c -> c < 128), "signs are 1 to 127");
        due(1, unit.getPackageName() == null, "there is no package");
        due(4, unit.getImports().isEmpty(), "nothing is imported");
        due(1, unit.getTypeDecls().size() == 1, "there is one class with all others inside it");
        due(11, classes <= 12, classes + " classes");
        for (String method : calls.keySet()) {
            int depth = depth(method, 1, new TreeSet<>());
            due(11, depth <= 8, method + " goes " + depth + " deep");
        }
    }

    /** How many calls stand open at once at most; there is no recursion. */
    private int depth(String method, int open, Set<String> above) {
        if (!above.add(method)) {
            due(8, false, method + " calls itself");
            return open;
        }
        int deepest = open;
        for (String called : calls.getOrDefault(method, Set.of())) {
            deepest = Math.max(deepest, depth(called, open + 1, above));
        }
        above.remove(method);
        return deepest;
    }

    // ---- classes, fields, methods

    @Override
    public Void visitClass(ClassTree tree, Void v) {
        classes++;
        boolean outer = getCurrentPath().getParentPath().getLeaf() == unit;
        Set<Modifier> flags = tree.getModifiers().getFlags();
        if (outer) {
            due(1, flags.equals(Set.of(Modifier.PUBLIC, Modifier.FINAL)), "the class is public and final");
        } else {
            Tree parent = getCurrentPath().getParentPath().getLeaf();
            due(2, parent instanceof ClassTree && flags.contains(Modifier.STATIC), tree.getSimpleName() + " is static");
            due(1, !flags.contains(Modifier.PUBLIC) && !flags.contains(Modifier.PROTECTED), tree.getSimpleName() + " is inside");
        }
        int fields = 0;
        for (Tree member : tree.getMembers()) {
            due(5, member.getKind() != Tree.Kind.BLOCK, "no initialiser block, " + line(member));
            if (member instanceof VariableTree field && !field.getModifiers().getFlags().contains(Modifier.STATIC)) {
                fields++;
            }
        }
        due(11, fields <= 20, tree.getSimpleName() + " has " + fields + " fields");
        return super.visitClass(tree, v);
    }

    @Override
    public Void visitVariable(VariableTree tree, Void v) {
        hasType(tree.getType());
        Set<Modifier> flags = tree.getModifiers().getFlags();
        if (flags.contains(Modifier.STATIC)) {
            boolean plain = tree.getType().toString().matches("int|long|boolean|char|String");
            due(5, flags.contains(Modifier.FINAL) && plain && tree.getInitializer() != null, tree.getName() + " is constant");
        }
        return super.visitVariable(tree, v);
    }

    @Override
    public Void visitMethod(MethodTree tree, Void v) {
        due(11, tree.getParameters().size() <= 7, tree.getName() + " takes at most seven");
        long first = trees.getSourcePositions().getStartPosition(unit, tree);
        long last = trees.getSourcePositions().getEndPosition(unit, tree);
        if (last >= 0) {
            long lines = unit.getLineMap().getLineNumber(last) - unit.getLineMap().getLineNumber(first) + 1;
            due(11, lines <= 60, tree.getName() + " has " + lines + " lines");
        }
        due(6, !tree.getName().toString().matches("equals|hashCode|toString"), tree.getName() + " is not told anew");
        due(6, tree.getThrows().isEmpty(), tree.getName() + " throws nothing");
        if (tree.getReturnType() != null) {
            hasType(tree.getReturnType());
        }
        calls.putIfAbsent(name(trees.getElement(getCurrentPath())), new TreeSet<>());
        return super.visitMethod(tree, v);
    }

    // ---- calls and what is made

    private static String name(Element method) {
        String owner = method.getEnclosingElement().getSimpleName().toString();
        return owner + "." + method.getSimpleName();
    }

    private MethodTree around() {
        for (Tree tree : getCurrentPath()) {
            if (tree instanceof MethodTree method) {
                return method;
            }
        }
        return null;
    }

    private void called(Element method) {
        if (around() != null) {
            TreePath at = getCurrentPath();
            while (!(at.getLeaf() instanceof MethodTree)) {
                at = at.getParentPath();
            }
            calls.computeIfAbsent(name(trees.getElement(at)), k -> new TreeSet<>()).add(name(method));
        }
    }

    @Override
    public Void visitMethodInvocation(MethodInvocationTree tree, Void v) {
        Element method = trees.getElement(new TreePath(getCurrentPath(), tree.getMethodSelect()));
        String owner = method.getEnclosingElement().toString();
        if (owner.startsWith("MeetingGroups")) {
            called(method);
        } else if (!(method.getKind() == ElementKind.CONSTRUCTOR && owner.equals("java.lang.Object"))) {
            due(4, LIBRARY.contains(name(method)), name(method) + " is of the library that is left, " + line(tree));
        }
        return super.visitMethodInvocation(tree, v);
    }

    @Override
    public Void visitMemberSelect(MemberSelectTree tree, Void v) {
        Element field = trees.getElement(getCurrentPath());
        if (field != null && field.getKind() == ElementKind.FIELD && !tree.getIdentifier().contentEquals("length")) {
            String owner = field.getEnclosingElement().toString();
            due(4, owner.startsWith("MeetingGroups"), owner + "." + tree.getIdentifier() + " is of the class, " + line(tree));
        }
        return super.visitMemberSelect(tree, v);
    }

    @Override
    public Void visitNewClass(NewClassTree tree, Void v) {
        due(2, tree.getClassBody() == null, "no anonymous class, " + line(tree));
        due(12, around() == null || around().getReturnType() == null, "objects are made by constructors alone, " + line(tree));
        hasType(tree.getIdentifier());
        return super.visitNewClass(tree, v);
    }

    @Override
    public Void visitNewArray(NewArrayTree tree, Void v) {
        due(12, around() == null || around().getReturnType() == null, "rows are made by constructors alone, " + line(tree));
        return super.visitNewArray(tree, v);
    }

    // ---- words

    @Override
    public Void visitBinary(BinaryTree tree, Void v) {
        boolean texts = typeOf(tree.getLeftOperand()).toString().equals("java.lang.String")
            || typeOf(tree.getRightOperand()).toString().equals("java.lang.String");
        due(texts && tree.getKind() == Tree.Kind.PLUS ? 10 : 6, !texts, "texts by a sign, " + line(tree));
        return super.visitBinary(tree, v);
    }

    @Override
    public Void visitTypeCast(TypeCastTree tree, Void v) {
        due(6, tree.getType().toString().matches(NUMBER), "casts are of numbers, " + line(tree));
        return super.visitTypeCast(tree, v);
    }

    /** A loop's end is seen in its condition: a comparison with a bound. */
    private void hasBound(Tree loop, Tree condition) {
        boolean[] found = new boolean[1];
        new TreeScanner<Void, Void>() {
            @Override
            public Void visitBinary(BinaryTree tree, Void v) {
                found[0] |= BOUNDS.contains(tree.getKind());
                return super.visitBinary(tree, v);
            }
        }.scan(condition, null);
        due(9, condition != null && found[0], "a loop has a bound, " + line(loop));
    }

    @Override
    public Void visitForLoop(ForLoopTree tree, Void v) {
        hasBound(tree, tree.getCondition());
        due(9, tree.getUpdate().size() == 1, "a counter goes on, " + line(tree));
        return super.visitForLoop(tree, v);
    }

    @Override
    public Void visitWhileLoop(WhileLoopTree tree, Void v) {
        hasBound(tree, tree.getCondition());
        return super.visitWhileLoop(tree, v);
    }

    @Override
    public Void visitDoWhileLoop(DoWhileLoopTree tree, Void v) {
        hasBound(tree, tree.getCondition());
        return super.visitDoWhileLoop(tree, v);
    }

    @Override
    public Void visitEnhancedForLoop(EnhancedForLoopTree tree, Void v) {
        due(12, typeOf(tree.getExpression()).toString().endsWith("[]"), "no list's iterator, " + line(tree));
        return super.visitEnhancedForLoop(tree, v);
    }

    private Void never(int rule, Tree tree) {
        due(rule, false, tree.getKind() + ", " + line(tree));
        return null;
    }

    @Override
    public Void visitThrow(ThrowTree tree, Void v) {
        return never(6, tree);
    }

    @Override
    public Void visitTry(TryTree tree, Void v) {
        return never(6, tree);
    }

    @Override
    public Void visitSynchronized(SynchronizedTree tree, Void v) {
        return never(6, tree);
    }

    @Override
    public Void visitAssert(AssertTree tree, Void v) {
        return never(6, tree);
    }

    @Override
    public Void visitLambdaExpression(LambdaExpressionTree tree, Void v) {
        return never(2, tree);
    }

    @Override
    public Void visitMemberReference(MemberReferenceTree tree, Void v) {
        return never(2, tree);
    }
}
