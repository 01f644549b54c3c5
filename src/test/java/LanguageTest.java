import com.sun.source.tree.AssertTree;
import com.sun.source.tree.BinaryTree;
import com.sun.source.tree.BlockTree;
import com.sun.source.tree.ClassTree;
import com.sun.source.tree.CompilationUnitTree;
import com.sun.source.tree.CompoundAssignmentTree;
import com.sun.source.tree.DoWhileLoopTree;
import com.sun.source.tree.ExpressionTree;
import com.sun.source.tree.ForLoopTree;
import com.sun.source.tree.ImportTree;
import com.sun.source.tree.LambdaExpressionTree;
import com.sun.source.tree.LiteralTree;
import com.sun.source.tree.MemberReferenceTree;
import com.sun.source.tree.MethodInvocationTree;
import com.sun.source.tree.MethodTree;
import com.sun.source.tree.NewClassTree;
import com.sun.source.tree.SynchronizedTree;
import com.sun.source.tree.ThrowTree;
import com.sun.source.tree.Tree;
import com.sun.source.tree.TryTree;
import com.sun.source.tree.TypeCastTree;
import com.sun.source.tree.VariableTree;
import com.sun.source.tree.WhileLoopTree;
import com.sun.source.util.JavacTask;
import com.sun.source.util.TreePathScanner;
import com.sun.source.util.Trees;
import java.io.File;
import java.io.IOException;
import java.util.HashMap;
import java.util.HashSet;
import java.util.List;
import java.util.Map;
import java.util.Set;
import java.util.TreeSet;
import javax.lang.model.element.Element;
import javax.lang.model.element.ExecutableElement;
import javax.lang.model.element.Modifier;
import javax.lang.model.element.TypeElement;
import javax.tools.JavaCompiler;
import javax.tools.StandardJavaFileManager;
import javax.tools.ToolProvider;

/**
 * LANGUAGE.md: what the compiler's tree of Lorewick.java tells of its rules 1 to 11, but 7; the face stands in FaceTest.
 * Stricter than the rules where the class does without what they allow: while and do, try, recursion, and calls
 * of the library that it has no need of. What the class comes to need may be let in here, if the rules do.
 */
public final class LanguageTest extends TreePathScanner<Void, Void> {

    private static final String SOURCE = "src/main/java/Lorewick.java";
    private static final Set<String> IMPORTS =
        Set.of("java.util.ArrayList", "java.util.Arrays", "java.util.List", "java.util.NoSuchElementException");
    // Of the library's calls that rule 4 lists, those that the class needs.
    private static final Set<String> CALLS = Set.of(
        "java.lang.String.length()", "java.lang.String.charAt(int)", "java.lang.String.indexOf(int)",
        "java.lang.StringBuilder.append(char)", "java.lang.StringBuilder.append(java.lang.String)",
        "java.lang.StringBuilder.append(int)", "java.lang.StringBuilder.charAt(int)",
        "java.lang.StringBuilder.setLength(int)", "java.lang.StringBuilder.length()",
        "java.lang.AbstractStringBuilder.charAt(int)", "java.lang.AbstractStringBuilder.length()",
        "java.lang.AbstractStringBuilder.setLength(int)", "java.util.ArrayList.add(E)", "java.util.ArrayList.get(int)",
        "java.util.ArrayList.size()", "java.util.ArrayList.isEmpty()", "java.lang.Long.bitCount(long)",
        "java.util.Arrays.fill(int[],int)");
    private static final Set<String> MADE = Set.of("java.lang.StringBuilder()", "java.util.ArrayList()");
    private static final Set<String> EXCEPTIONS = Set.of("IllegalStateException", "IllegalArgumentException",
        "IndexOutOfBoundsException", "ArithmeticException", "UnsupportedOperationException", "NoSuchElementException",
        "RuntimeException");
    private static final String PRIMITIVE = "int|long|short|byte|char|boolean|double|float";
    private static final String OF_NUMBERS = "(int|long|short|byte|char|double|float)\\[\\]\\[\\]";

    private final Trees trees;
    private final CompilationUnitTree unit;
    private final Set<String> classes = new TreeSet<>();
    private final Map<String, Set<String>> called = new HashMap<>();

    private LanguageTest(Trees trees, CompilationUnitTree unit) {
        this.trees = trees;
        this.unit = unit;
    }

    public static void main(String[] args) throws IOException {
        File source = new File(args.length > 0 ? args[0] : SOURCE);
        JavaCompiler compiler = ToolProvider.getSystemJavaCompiler();
        try (StandardJavaFileManager files = compiler.getStandardFileManager(null, null, null)) {
            JavacTask task = (JavacTask) compiler.getTask(null, files, null, null, null, files.getJavaFileObjects(source));
            CompilationUnitTree unit = task.parse().iterator().next();
            task.analyze();
            new LanguageTest(Trees.instance(task), unit).check();
        }
        Check.end();
    }

    private void due(int rule, String what, Object want, Object got) {
        Check.due(0, "rule " + rule + ", " + what, want, () -> got);
    }

    private void refuse(int rule, Tree tree) {
        due(rule, "line " + lineOf(tree) + ": " + tree, "nothing of the kind", "this");
    }

    private long lineOf(Tree tree) {
        return unit.getLineMap().getLineNumber(trees.getSourcePositions().getStartPosition(unit, tree));
    }

    private long lastLineOf(Tree tree) {
        return unit.getLineMap().getLineNumber(trees.getSourcePositions().getEndPosition(unit, tree));
    }

    private String typeOf(Tree tree) {
        return String.valueOf(trees.getTypeMirror(new com.sun.source.util.TreePath(getCurrentPath(), tree)));
    }

    private void check() {
        due(1, "package", null, unit.getPackage());
        due(1, "classes of the file", 1, unit.getTypeDecls().size());
        for (ImportTree item : unit.getImports()) {
            due(4, item.toString().strip(), true, IMPORTS.contains(item.getQualifiedIdentifier().toString()));
        }
        scan(unit, null);
        due(11, classes + " are at most 12 classes", true, classes.size() <= 12);
        for (String method : called.keySet()) {
            due(11, "calls from " + method + " go at most eight deep", true, depthOf(method, new HashSet<>()) <= 8);
        }
        due(0, "calls were seen from say", true, depthOf("Lorewick.say()", new HashSet<>()) > 3);
    }

    /** Returns how deep calls go from a method, 1000 or more if they come back to it. */
    private int depthOf(String method, Set<String> open) {
        if (!open.add(method)) {
            return 1000;
        }
        int deepest = 0;
        for (String next : called.getOrDefault(method, Set.of())) {
            deepest = Math.max(deepest, depthOf(next, open));
        }
        open.remove(method);
        return deepest + 1;
    }

    @Override
    public Void visitClass(ClassTree tree, Void none) {
        TypeElement element = (TypeElement) trees.getElement(getCurrentPath());
        classes.add(element.getQualifiedName().toString());
        int fields = 0;
        for (Tree member : tree.getMembers()) {
            if (member instanceof BlockTree) {
                refuse(5, member);
            }
            boolean isField = member instanceof VariableTree variable
                && !variable.getModifiers().getFlags().contains(Modifier.STATIC);
            fields += isField ? 1 : 0;
        }
        due(11, tree.getSimpleName() + " has at most 20 fields", true, fields <= 20);
        return super.visitClass(tree, none);
    }

    @Override
    public Void visitVariable(VariableTree tree, Void none) {
        Element element = trees.getElement(getCurrentPath());
        String type = element.asType().toString();
        due(3, "type of " + tree, true, isAllowed(type));
        Element owner = element.getEnclosingElement();
        boolean isField = element.getKind().isField() && !element.getKind().name().equals("ENUM_CONSTANT");
        if (isField && owner.getKind().name().equals("ENUM")) {
            due(2, "field of an enum, " + tree, true, type.matches("int|long|boolean|java.lang.String"));
        }
        if (isField && element.getModifiers().contains(Modifier.STATIC)) {
            due(5, "static " + tree, true, element.getModifiers().contains(Modifier.FINAL));
            boolean isValues = String.valueOf(tree.getInitializer()).endsWith(".values()");
            due(5, "static " + tree, true, isValues || type.matches("int|long|boolean|char|java.lang.String"));
        }
        return super.visitVariable(tree, none);
    }

    private boolean isAllowed(String type) {
        String own = "Lorewick(\\.[A-Za-z]+)?";
        String listed = "java.util.(ArrayList|List)<(" + own + "|java.lang.Integer)>";
        return type.matches("((" + PRIMITIVE + "|" + own + ")(\\[\\])?)|" + OF_NUMBERS + "|" + listed
            + "|java.lang.String|java.lang.StringBuilder");
    }

    @Override
    public Void visitMethod(MethodTree tree, Void none) {
        due(11, tree.getName() + " takes at most seven", true, tree.getParameters().size() <= 7);
        due(11, tree.getName() + " is short", true, lastLineOf(tree) - lineOf(tree) < 60);
        return super.visitMethod(tree, none);
    }

    @Override
    public Void visitMethodInvocation(MethodInvocationTree tree, Void none) {
        ExecutableElement method = (ExecutableElement) trees.getElement(getCurrentPath());
        boolean isValues = method.getSimpleName().contentEquals("values");
        if (!isCallOfSuper(tree) && !isValues) {
            note(textOf(method), 4, tree, CALLS);
        }
        return super.visitMethodInvocation(tree, none);
    }

    private static boolean isCallOfSuper(MethodInvocationTree tree) {
        return tree.getMethodSelect().toString().equals("super");
    }

    @Override
    public Void visitNewClass(NewClassTree tree, Void none) {
        ExecutableElement made = (ExecutableElement) trees.getElement(getCurrentPath());
        String name = ((TypeElement) made.getEnclosingElement()).getQualifiedName().toString();
        if (!(getCurrentPath().getParentPath().getLeaf() instanceof ThrowTree)) {
            note(textOf(made).replace(".<init>", ""), 4, tree, MADE);
        }
        due(2, "no class without a name, " + name, null, tree.getClassBody());
        return super.visitNewClass(tree, none);
    }

    /** Notes a call of the class's own; another one must be in a list. */
    private void note(String text, int rule, Tree tree, Set<String> list) {
        if (text.startsWith("Lorewick")) {
            called.computeIfAbsent(caller(), key -> new HashSet<>()).add(text);
        } else {
            due(rule, "line " + lineOf(tree) + ": " + text, true, list.contains(text));
        }
    }

    private String caller() {
        for (var path = getCurrentPath(); path != null; path = path.getParentPath()) {
            if (path.getLeaf() instanceof MethodTree) {
                return textOf((ExecutableElement) trees.getElement(path)).replace(".<init>", "");
            }
        }
        return "fields";
    }

    private static String textOf(ExecutableElement method) {
        StringBuilder text = new StringBuilder();
        text.append(((TypeElement) method.getEnclosingElement()).getQualifiedName()).append('.');
        text.append(method.getSimpleName()).append('(');
        String comma = "";
        for (var parameter : method.getParameters()) {
            text.append(comma).append(parameter.asType());
            comma = ",";
        }
        return text.append(')').toString();
    }

    @Override
    public Void visitThrow(ThrowTree tree, Void none) {
        boolean isAllowed = false;
        if (tree.getExpression() instanceof NewClassTree made) {
            List<? extends ExpressionTree> values = made.getArguments();
            boolean isWritten = values.isEmpty() || (values.size() == 1 && values.get(0) instanceof LiteralTree);
            isAllowed = EXCEPTIONS.contains(made.getIdentifier().toString()) && isWritten;
        }
        due(6, tree.toString(), true, isAllowed && !caller().matches("Lorewick(\\.[A-Z][A-Za-z]*)?\\(.*"));
        return super.visitThrow(tree, none);
    }

    @Override
    public Void visitBinary(BinaryTree tree, Void none) {
        String left = typeOf(tree.getLeftOperand());
        String right = typeOf(tree.getRightOperand());
        boolean isText = (left + right).contains("java.lang.");
        if (isText) {
            refuse(tree.getKind() == Tree.Kind.PLUS ? 10 : 6, tree);
        }
        return super.visitBinary(tree, none);
    }

    @Override
    public Void visitCompoundAssignment(CompoundAssignmentTree tree, Void none) {
        due(10, tree.toString(), true, typeOf(tree.getVariable()).matches(PRIMITIVE));
        return super.visitCompoundAssignment(tree, none);
    }

    @Override
    public Void visitTypeCast(TypeCastTree tree, Void none) {
        due(6, tree.toString(), true, tree.getType().toString().matches(PRIMITIVE));
        return super.visitTypeCast(tree, none);
    }

    @Override
    public Void visitForLoop(ForLoopTree tree, Void none) {
        due(9, "line " + lineOf(tree) + ", a loop has an end", true, tree.getCondition() != null);
        return super.visitForLoop(tree, none);
    }

    @Override
    public Void visitWhileLoop(WhileLoopTree tree, Void none) {
        refuse(9, tree);
        return null;
    }

    @Override
    public Void visitDoWhileLoop(DoWhileLoopTree tree, Void none) {
        refuse(9, tree);
        return null;
    }

    @Override
    public Void visitTry(TryTree tree, Void none) {
        refuse(6, tree);
        return null;
    }

    @Override
    public Void visitSynchronized(SynchronizedTree tree, Void none) {
        refuse(6, tree);
        return null;
    }

    @Override
    public Void visitAssert(AssertTree tree, Void none) {
        refuse(6, tree);
        return null;
    }

    @Override
    public Void visitLambdaExpression(LambdaExpressionTree tree, Void none) {
        refuse(2, tree);
        return null;
    }

    @Override
    public Void visitMemberReference(MemberReferenceTree tree, Void none) {
        refuse(2, tree);
        return null;
    }
}
