import com.sun.source.tree.AnnotationTree;
import com.sun.source.tree.AssertTree;
import com.sun.source.tree.BinaryTree;
import com.sun.source.tree.BlockTree;
import com.sun.source.tree.ClassTree;
import com.sun.source.tree.CompilationUnitTree;
import com.sun.source.tree.DoWhileLoopTree;
import com.sun.source.tree.ForLoopTree;
import com.sun.source.tree.ImportTree;
import com.sun.source.tree.InstanceOfTree;
import com.sun.source.tree.LambdaExpressionTree;
import com.sun.source.tree.MemberReferenceTree;
import com.sun.source.tree.MethodInvocationTree;
import com.sun.source.tree.MethodTree;
import com.sun.source.tree.NewArrayTree;
import com.sun.source.tree.NewClassTree;
import com.sun.source.tree.SynchronizedTree;
import com.sun.source.tree.ThrowTree;
import com.sun.source.tree.Tree;
import com.sun.source.tree.TryTree;
import com.sun.source.tree.VariableTree;
import com.sun.source.tree.WhileLoopTree;
import com.sun.source.util.JavacTask;
import com.sun.source.util.TreePath;
import com.sun.source.util.TreePathScanner;
import com.sun.source.util.Trees;
import java.io.IOException;
import java.nio.file.Files;
import java.nio.file.Path;
import java.util.ArrayList;
import java.util.LinkedHashMap;
import java.util.LinkedHashSet;
import java.util.List;
import java.util.Map;
import java.util.Set;
import java.util.TreeSet;
import java.util.regex.Matcher;
import java.util.regex.Pattern;
import javax.lang.model.element.Element;
import javax.lang.model.element.ElementKind;
import javax.lang.model.element.ExecutableElement;
import javax.lang.model.element.Modifier;
import javax.lang.model.element.TypeElement;
import javax.lang.model.type.TypeMirror;
import javax.tools.JavaCompiler;
import javax.tools.StandardJavaFileManager;
import javax.tools.ToolProvider;

/**
 * Reads the source as the compiler does, and holds it to the document's face and to those rules of
 * LANGUAGE.md that can be seen in it. It is stricter than the rules where the class needs less than
 * they leave: no recursion, no texts, and nothing is made outside of constructors.
 */
public final class RulesTest extends TreePathScanner<Void, Void> {
    private static final Path SOURCE = Path.of("src/main/java/WordSchool.java");
    private static final Path DOCUMENT = Path.of("../shared/DOC.md");
    private static final Set<String> LIBRARY = Set.of("Arrays.fill", "System.arraycopy", "Math.max", "Math.min", "Integer.bitCount", "Object.<init>");
    private static final Set<String> TYPES = Set.of("int", "long", "boolean", "int[]", "long[]", "void");
    private static final int MOST_CLASSES = 12;
    private static final int MOST_FIELDS = 20;
    private static final int MOST_LINES = 60;
    private static final int MOST_PARAMETERS = 7;
    private static final int MOST_DEEP = 8;
    private static final int METHODS = 41;

    private static int wrong;

    private final CompilationUnitTree unit;
    private final Trees trees;
    private final JavacTask task;
    private final Map<String, Set<String>> calls = new LinkedHashMap<>();
    private final List<ExecutableElement> methods = new ArrayList<>();
    private final Set<String> publicNames = new TreeSet<>();
    /** Methods without a body: a call of one is a call of what overrides it, and no level of its own. */
    private final Set<String> openNames = new TreeSet<>();
    private int classes;

    private RulesTest(JavacTask task, CompilationUnitTree unit) {
        this.task = task;
        this.unit = unit;
        this.trees = Trees.instance(task);
    }

    private static void rule(boolean holds, String fault) {
        if (!holds) {
            wrong++;
            System.out.println("RulesTest: rule " + fault);
        }
    }

    private String where(Tree tree) {
        long at = trees.getSourcePositions().getStartPosition(unit, tree);
        return "line " + unit.getLineMap().getLineNumber(at);
    }

    private Void never(int number, Tree tree, String what) {
        rule(false, number + ": " + what + " in " + where(tree));
        return null;
    }

    // ---- what a name stands for

    private static boolean isOwn(Element of) {
        Element at = of;
        while (at != null && !at.getSimpleName().contentEquals("WordSchool")) {
            at = at.getEnclosingElement();
        }
        return at != null;
    }

    private static String nameOf(Element method) {
        String shape = method.toString();
        String name = method.getKind() == ElementKind.CONSTRUCTOR ? "<init>" : shape;
        return method.getEnclosingElement().getSimpleName() + "." + name;
    }

    /** The method or constructor around the place that is read; a class's fields belong to its constructor. */
    private String around() {
        for (TreePath at = getCurrentPath(); at != null; at = at.getParentPath()) {
            if (at.getLeaf() instanceof MethodTree) {
                return nameOf(trees.getElement(at));
            }
            if (at.getLeaf() instanceof ClassTree) {
                return trees.getElement(at).getSimpleName() + ".<init>";
            }
        }
        return "";
    }

    private boolean isInConstructor() {
        return around().endsWith(".<init>");
    }

    // ---- the tree

    @Override
    public Void visitImport(ImportTree tree, Void none) {
        rule(tree.toString().trim().equals("import java.util.Arrays;"), "4: " + tree);
        return super.visitImport(tree, none);
    }

    @Override
    public Void visitClass(ClassTree tree, Void none) {
        TypeElement self = (TypeElement) trees.getElement(getCurrentPath());
        boolean inside = self.getEnclosingElement().getKind() == ElementKind.CLASS;
        classes++;
        rule(!inside || self.getModifiers().contains(Modifier.STATIC), "2: " + self + " is not static");
        rule(!inside || !self.getModifiers().contains(Modifier.PUBLIC) && !self.getModifiers().contains(Modifier.PROTECTED), "1: " + self + " is seen outside");
        rule(inside || self.getModifiers().equals(Set.of(Modifier.PUBLIC, Modifier.FINAL)), "1: " + self + " is not public and final");
        rule(inside || self.getQualifiedName().contentEquals("WordSchool"), "1: the class is " + self);
        rule(getCurrentPath().getParentPath().getLeaf() instanceof CompilationUnitTree || getCurrentPath().getParentPath().getLeaf() instanceof ClassTree, "2: " + self + " is local");
        int fields = 0;
        for (Tree member : tree.getMembers()) {
            boolean fixed = member instanceof VariableTree && ((VariableTree) member).getModifiers().getFlags().contains(Modifier.STATIC);
            fields += member instanceof VariableTree && !fixed ? 1 : 0;
            rule(!(member instanceof BlockTree), "5: " + self + " has an initialiser block");
        }
        rule(fields <= MOST_FIELDS, "11: " + self + " has " + fields + " fields");
        return super.visitClass(tree, none);
    }

    @Override
    public Void visitVariable(VariableTree tree, Void none) {
        Element self = trees.getElement(getCurrentPath());
        allowed(self.asType(), tree);
        boolean field = self.getKind() == ElementKind.FIELD;
        boolean fixed = self.getModifiers().contains(Modifier.STATIC);
        boolean outer = self.getEnclosingElement().getSimpleName().contentEquals("WordSchool");
        rule(!fixed || self.getModifiers().contains(Modifier.FINAL), "5: " + self + " is not final");
        rule(!fixed || ((javax.lang.model.element.VariableElement) self).getConstantValue() != null, "5: " + self + " is no constant");
        rule(!field || !outer || self.getModifiers().contains(Modifier.PRIVATE) || self.getSimpleName().contentEquals("NONE"), "1: " + self + " is not private");
        return super.visitVariable(tree, none);
    }

    private void allowed(TypeMirror type, Tree tree) {
        String name = type.toString();
        boolean own = name.startsWith("WordSchool") && !name.endsWith("[][]");
        rule(own || TYPES.contains(name), "3: the type " + name + " in " + where(tree));
    }

    @Override
    public Void visitMethod(MethodTree tree, Void none) {
        ExecutableElement self = (ExecutableElement) trees.getElement(getCurrentPath());
        boolean outer = self.getEnclosingElement().getSimpleName().contentEquals("WordSchool");
        boolean open = self.getModifiers().contains(Modifier.PUBLIC);
        methods.add(self);
        calls.computeIfAbsent(nameOf(self), key -> new LinkedHashSet<>());
        if (outer && open) {
            publicNames.add(self.getSimpleName().toString());
        }
        if (self.getModifiers().contains(Modifier.ABSTRACT)) {
            openNames.add(nameOf(self));
        }
        allowed(self.getReturnType(), tree);
        rule(!outer || open || self.getModifiers().contains(Modifier.PRIVATE), "1: " + self + " is neither public nor private");
        rule(!self.isVarArgs() && tree.getParameters().size() <= MOST_PARAMETERS, "11: " + self + " takes too many");
        rule(tree.getThrows().isEmpty(), "6: " + self + " throws");
        long begin = trees.getSourcePositions().getStartPosition(unit, tree);
        long end = trees.getSourcePositions().getEndPosition(unit, tree);
        long lines = end < 0 ? 1 : unit.getLineMap().getLineNumber(end) - unit.getLineMap().getLineNumber(begin) + 1;
        rule(lines <= MOST_LINES, "11: " + self + " has " + lines + " lines");
        return super.visitMethod(tree, none);
    }

    @Override
    public Void visitMethodInvocation(MethodInvocationTree tree, Void none) {
        Element to = trees.getElement(getCurrentPath());
        boolean beginning = to.getKind() == ElementKind.CONSTRUCTOR;
        rule(beginning || !isInConstructor(), "12: a constructor calls " + to + " in " + where(tree));
        call(to, tree);
        return super.visitMethodInvocation(tree, none);
    }

    @Override
    public Void visitNewClass(NewClassTree tree, Void none) {
        rule(tree.getClassBody() == null, "2: an anonymous class in " + where(tree));
        rule(isInConstructor(), "12: an object is made in " + where(tree));
        call(trees.getElement(getCurrentPath()), tree);
        return super.visitNewClass(tree, none);
    }

    @Override
    public Void visitNewArray(NewArrayTree tree, Void none) {
        rule(isInConstructor(), "12: an array is made in " + where(tree));
        return super.visitNewArray(tree, none);
    }

    private void call(Element to, Tree tree) {
        String name = nameOf(to);
        if (!isOwn(to)) {
            String plain = to.getEnclosingElement().getSimpleName() + "." + to.getSimpleName();
            rule(LIBRARY.contains(plain), "4: " + plain + " in " + where(tree));
        }
        calls.computeIfAbsent(around(), key -> new LinkedHashSet<>()).add(name);
    }

    @Override
    public Void visitForLoop(ForLoopTree tree, Void none) {
        rule(tree.getCondition() != null && isBound(tree.getCondition().toString()), "9: a loop without a bound in " + where(tree));
        return super.visitForLoop(tree, none);
    }

    @Override
    public Void visitWhileLoop(WhileLoopTree tree, Void none) {
        rule(isBound(tree.getCondition().toString()), "9: a loop without a bound in " + where(tree));
        return super.visitWhileLoop(tree, none);
    }

    @Override
    public Void visitDoWhileLoop(DoWhileLoopTree tree, Void none) {
        rule(isBound(tree.getCondition().toString()), "9: a loop without a bound in " + where(tree));
        return super.visitDoWhileLoop(tree, none);
    }

    private static boolean isBound(String condition) {
        return condition.contains("<") || condition.contains(">");
    }

    @Override
    public Void visitBinary(BinaryTree tree, Void none) {
        TypeMirror type = trees.getTypeMirror(getCurrentPath());
        rule(type.getKind().isPrimitive(), "10: texts are joined in " + where(tree));
        boolean divides = tree.getKind() == Tree.Kind.DIVIDE || tree.getKind() == Tree.Kind.REMAINDER;
        // constants and what a line ahead has tested; a new divisor has to be looked at, then named here
        rule(!divides || tree.getRightOperand().toString().matches("[A-Z]+|\\d|\\(?SPOTS \\+ 1\\)?|m"), "7: the divisor of " + tree + " in " + where(tree));
        return super.visitBinary(tree, none);
    }

    @Override
    public Void visitThrow(ThrowTree tree, Void none) {
        return never(6, tree, "throw");
    }

    @Override
    public Void visitTry(TryTree tree, Void none) {
        return never(6, tree, "try");
    }

    @Override
    public Void visitSynchronized(SynchronizedTree tree, Void none) {
        return never(6, tree, "synchronized");
    }

    @Override
    public Void visitAssert(AssertTree tree, Void none) {
        return never(6, tree, "assert");
    }

    @Override
    public Void visitInstanceOf(InstanceOfTree tree, Void none) {
        return never(6, tree, "instanceof");
    }

    @Override
    public Void visitLambdaExpression(LambdaExpressionTree tree, Void none) {
        return never(2, tree, "a lambda");
    }

    @Override
    public Void visitMemberReference(MemberReferenceTree tree, Void none) {
        return never(2, tree, "a method reference");
    }

    @Override
    public Void visitAnnotation(AnnotationTree tree, Void none) {
        return never(4, tree, "an annotation");
    }

    // ---- what follows from the whole

    /** A call of a method that others override may go to each of them. */
    private void addOverriders() {
        for (ExecutableElement method : methods) {
            for (ExecutableElement other : methods) {
                TypeElement owner = (TypeElement) other.getEnclosingElement();
                if (method != other && task.getElements().overrides(other, method, owner)) {
                    calls.get(nameOf(method)).add(nameOf(other));
                }
            }
        }
    }

    private int depthOf(String name, Set<String> open, Map<String, Integer> found) {
        if (found.containsKey(name)) {
            return found.get(name);
        }
        if (!open.add(name)) {
            rule(false, "8: " + name + " calls itself by way of " + open);
            return 0;
        }
        int deepest = 0;
        for (String next : calls.getOrDefault(name, Set.of())) {
            deepest = Math.max(deepest, depthOf(next, open, found));
        }
        open.remove(name);
        int own = openNames.contains(name) ? 0 : 1;
        found.put(name, deepest + own);
        return deepest + own;
    }

    private void wholeGraph() {
        Map<String, Integer> found = new LinkedHashMap<>();
        addOverriders();
        for (ExecutableElement method : methods) {
            boolean outer = method.getEnclosingElement().getSimpleName().contentEquals("WordSchool");
            if (outer && method.getModifiers().contains(Modifier.PUBLIC)) {
                int depth = depthOf(nameOf(method), new LinkedHashSet<>(), found);
                rule(depth <= MOST_DEEP, "11: " + method + " goes " + depth + " calls deep");
            }
        }
        for (ExecutableElement method : methods) {
            boolean outer = method.getEnclosingElement().getSimpleName().contentEquals("WordSchool");
            boolean faces = outer && method.getModifiers().contains(Modifier.PUBLIC);
            boolean makes = method.getKind() == ElementKind.CONSTRUCTOR;
            rule(makes || found.containsKey(nameOf(method)), "of plain code: nothing calls " + nameOf(method));
            rule(makes || faces || !publicNames.contains(method.getSimpleName().toString()), "1: " + method + " bears the name of a public one");
        }
        rule(classes <= MOST_CLASSES, "11: there are " + classes + " classes");
        rule(publicNames.size() == METHODS + 1, "1: there are " + publicNames.size() + " public methods, the constructor counted");
    }

    // ---- the document's face

    private static List<String> members(String code) {
        List<String> found = new ArrayList<>();
        Matcher member = Pattern.compile("(?m)^    (public [^={;]*?)( = -1)?( \\{|;)$").matcher(code);
        while (member.find()) {
            found.add(member.group(1) + (member.group(2) == null ? "" : member.group(2)));
        }
        return found;
    }

    /** The face as it stands in the document: names of parameters and the order of methods too. */
    private static void face() throws IOException {
        if (!Files.exists(DOCUMENT)) {
            System.out.println("RulesTest: there is no " + DOCUMENT + " to hold the face against");
            return;
        }
        String document = Files.readString(DOCUMENT);
        int begin = document.indexOf("```java\n");
        List<String> due = members(document.substring(begin, document.indexOf("\n```\n", begin)));
        List<String> there = members(Files.readString(SOURCE));
        rule(due.size() == METHODS + 2, "1: the document has " + due.size() + " members");
        rule(due.equals(there), "1: the face is " + there);
    }

    public static void main(String[] args) throws IOException {
        JavaCompiler compiler = ToolProvider.getSystemJavaCompiler();
        StandardJavaFileManager files = compiler.getStandardFileManager(null, null, null);
        JavacTask task = (JavacTask) compiler.getTask(null, files, null, List.of("--release", "17"), null, files.getJavaFileObjects(SOURCE));
        for (CompilationUnitTree unit : task.parse()) {
            task.analyze();
            RulesTest reading = new RulesTest(task, unit);
            rule(unit.getPackageName() == null && unit.getTypeDecls().size() == 1, "1: one class without a package");
            reading.scan(unit, null);
            reading.wholeGraph();
        }
        face();
        System.out.println("RulesTest: " + (wrong == 0 ? "all rules that are looked at are kept" : wrong + " rules are broken"));
        if (wrong != 0) {
            System.exit(1);
        }
    }
}
