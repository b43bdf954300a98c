import com.sun.source.tree.ArrayAccessTree;
import com.sun.source.tree.AssignmentTree;
import com.sun.source.tree.BinaryTree;
import com.sun.source.tree.BlockTree;
import com.sun.source.tree.ClassTree;
import com.sun.source.tree.CompilationUnitTree;
import com.sun.source.tree.CompoundAssignmentTree;
import com.sun.source.tree.ExpressionTree;
import com.sun.source.tree.LambdaExpressionTree;
import com.sun.source.tree.LiteralTree;
import com.sun.source.tree.MemberReferenceTree;
import com.sun.source.tree.MethodInvocationTree;
import com.sun.source.tree.MethodTree;
import com.sun.source.tree.NewClassTree;
import com.sun.source.tree.ThrowTree;
import com.sun.source.tree.Tree;
import com.sun.source.tree.TryTree;
import com.sun.source.tree.TypeCastTree;
import com.sun.source.util.JavacTask;
import com.sun.source.util.SourcePositions;
import com.sun.source.util.TreePath;
import com.sun.source.util.TreePathScanner;
import com.sun.source.util.Trees;
import java.io.IOException;
import java.nio.file.Path;
import java.util.ArrayList;
import java.util.LinkedHashMap;
import java.util.LinkedHashSet;
import java.util.List;
import java.util.Map;
import java.util.Set;
import java.util.TreeSet;
import java.util.regex.Pattern;
import javax.lang.model.element.Element;
import javax.lang.model.type.TypeKind;
import javax.lang.model.type.TypeMirror;
import javax.tools.JavaCompiler;
import javax.tools.StandardJavaFileManager;
import javax.tools.ToolProvider;

/** The rules of LANGUAGE.md that the compiler's own trees can tell: what is called, how deep, how long, and what is not there. */
final class Rules extends TreePathScanner<Void, Void> {
    private static final Set<String> LIBRARY = Set.of("String.length", "String.charAt", "String.isEmpty", "String.equals",
            "String.indexOf", "String.substring", "String.toCharArray", "Integer.bitCount", "Integer.numberOfLeadingZeros",
            "Math.max", "Math.min", "Math.abs", "System.arraycopy", "Arrays.copyOf", "Arrays.copyOfRange", "Arrays.fill");
    /** What divides and is no constant: each is looked at ahead of it, or counts from 1 on. */
    private static final Set<String> DIVISORS = Set.of("rains", "last", "i", "hands");
    /** What calls itself: each by a depth that it carries. */
    private static final Set<String> RECURSIVE = Set.of("Orders.search", "Parser.readSum", "Parser.readUnit");

    private final CompilationUnitTree unit;
    private final Trees trees;
    private final Map<String, Set<String>> calls = new LinkedHashMap<>();
    private String method = "";
    private String body = "";

    Rules(Path source) throws IOException {
        JavaCompiler compiler = ToolProvider.getSystemJavaCompiler();
        StandardJavaFileManager files = compiler.getStandardFileManager(null, null, null);
        JavacTask task = (JavacTask) compiler.getTask(null, files, null, List.of("-proc:none"), null, files.getJavaFileObjects(source));
        unit = task.parse().iterator().next();
        task.analyze();
        trees = Trees.instance(task);
    }

    void hold() {
        scan(unit, null);
        Due.edge("rule 11");
        for (String own : calls.keySet()) {
            List<String> way = deepest(own, new LinkedHashSet<>());
            Due.due("calls go at most eight deep: " + way, way.size() <= 8, true);
        }
        Due.edge("rule 8");
        Set<String> recursive = new TreeSet<>();
        for (String own : calls.keySet()) {
            if (reaches(own, own, new LinkedHashSet<>())) {
                recursive.add(own);
            }
        }
        Due.due("what calls itself: " + recursive, recursive.equals(new TreeSet<>(RECURSIVE)), true);
    }

    private List<String> deepest(String from, Set<String> open) {
        List<String> best = new ArrayList<>();
        open.add(from);
        for (String to : calls.getOrDefault(from, Set.of())) {
            if (!open.contains(to)) {
                List<String> way = deepest(to, open);
                best = way.size() > best.size() ? way : best;
            }
        }
        open.remove(from);
        List<String> way = new ArrayList<>(List.of(from));
        way.addAll(best);
        return way;
    }

    private boolean reaches(String from, String goal, Set<String> seen) {
        for (String to : calls.getOrDefault(from, Set.of())) {
            if (to.equals(goal) || seen.add(to) && reaches(to, goal, seen)) {
                return true;
            }
        }
        return false;
    }

    private static String nameOf(Element e) {
        return e.getEnclosingElement().getSimpleName() + "." + e.getSimpleName();
    }

    private boolean isOwn(Element e) {
        Element owner = e.getEnclosingElement();
        return owner.toString().startsWith("SaltStairs");
    }

    private String lineOf(Tree tree) {
        return "line " + unit.getLineMap().getLineNumber(trees.getSourcePositions().getStartPosition(unit, tree));
    }

    private void never(String what, Tree tree) {
        Due.due(what + " at " + lineOf(tree), true, false);
    }

    private boolean isText(Tree tree) {
        TypeMirror type = trees.getTypeMirror(new TreePath(getCurrentPath(), tree));
        return type != null && type.toString().equals("java.lang.String");
    }

    @Override
    public Void visitMethod(MethodTree tree, Void none) {
        String outer = method;
        method = nameOf(trees.getElement(getCurrentPath()));
        calls.putIfAbsent(method, new LinkedHashSet<>());
        SourcePositions at = trees.getSourcePositions();
        long first = unit.getLineMap().getLineNumber(at.getStartPosition(unit, tree));
        long last = unit.getLineMap().getLineNumber(at.getEndPosition(unit, tree));
        Due.edge("rule 11");
        Due.due(method + " has some sixty lines at most", last - first < 60, true);
        Due.due(method + " takes at most seven", tree.getParameters().size() <= 7, true);
        String outerBody = body;
        body = tree.toString();
        super.visitMethod(tree, none);
        method = outer;
        body = outerBody;
        return null;
    }

    @Override
    public Void visitMethodInvocation(MethodInvocationTree tree, Void none) {
        Element called = trees.getElement(new TreePath(getCurrentPath(), tree.getMethodSelect()));
        if (called != null && !called.getSimpleName().contentEquals("<init>")) {
            calls.computeIfAbsent(method, m -> new LinkedHashSet<>()).add(nameOf(called));
            Due.edge("rule 4");
            Due.due(nameOf(called) + " may be called, " + lineOf(tree), isOwn(called) || LIBRARY.contains(nameOf(called)), true);
        }
        return super.visitMethodInvocation(tree, none);
    }

    @Override
    public Void visitNewClass(NewClassTree tree, Void none) {
        Element made = trees.getElement(getCurrentPath());
        Due.edge("rules 2 and 4");
        Due.due("no class without a name, " + lineOf(tree), tree.getClassBody() == null, true);
        Due.due("an object of its own, " + lineOf(tree), isOwn(made), true);
        calls.computeIfAbsent(method, m -> new LinkedHashSet<>()).add(nameOf(made));
        return super.visitNewClass(tree, none);
    }

    @Override
    public Void visitBinary(BinaryTree tree, Void none) {
        boolean divides = tree.getKind() == Tree.Kind.DIVIDE || tree.getKind() == Tree.Kind.REMAINDER;
        Due.edge("rule 7");
        if (divides) {
            divides(tree.getRightOperand());
        }
        Due.edge("rules 6 and 10");
        if (isText(tree.getLeftOperand()) || isText(tree.getRightOperand())) {
            never("no texts joined by + or held against each other by ==", tree);
        }
        return super.visitBinary(tree, none);
    }

    private void divides(ExpressionTree divisor) {
        boolean isConstant = divisor instanceof LiteralTree l && !l.getValue().equals(0) || divisor.toString().matches("[A-Z_]+");
        Due.due("a divisor that is not 0: " + divisor, isConstant || DIVISORS.contains(divisor.toString()), true);
    }

    @Override
    public Void visitArrayAccess(ArrayAccessTree tree, Void none) {
        String row = tree.getExpression().toString();
        String index = tree.getIndex().toString();
        Due.edge("rule 7");
        String way = row + "[" + index + "], " + lineOf(tree);
        Due.due("an index is looked at against the length ahead of " + way, isBelowLength(row, index), true);
        Due.due("an index is looked at against 0 ahead of " + way, isNotBelowZero(index), true);
        Due.due("what may be null is looked at ahead of " + way, isNoNull(tree, row + "[" + index + "]"), true);
        return super.visitArrayAccess(tree, none);
    }

    private boolean isBelowLength(String row, String index) {
        return isInMethod(index + " < " + row + ".length") || isInMethod(index + " >= " + row + ".length")
                || isInMethod(index + " + 1 >= " + row + ".length")
                || isNumber(index) && isInMethod(row + ".length < " + (Integer.parseInt(index) + 1));
    }

    private boolean isNotBelowZero(String index) {
        String counted = index.endsWith(" + 1") ? index.substring(0, index.length() - 4) : index;
        return isNumber(counted) || isInMethod(counted + " >= 0") || isInMethod(counted + " < 0") || isInMethod("int " + counted + " = 0");
    }

    private boolean isNoNull(ArrayAccessTree tree, String part) {
        TypeMirror type = trees.getTypeMirror(getCurrentPath());
        boolean isObject = type != null && type.getKind() == TypeKind.DECLARED;
        boolean isPut = getCurrentPath().getParentPath().getLeaf() instanceof AssignmentTree put && put.getVariable() == tree;
        return !isObject || isPut || isInMethod(part + " == null") || isInMethod(part + " != null");
    }

    private static boolean isNumber(String index) {
        return index.matches("\\d+");
    }

    /** Whether the method around holds these words, not as the end of longer ones. */
    private boolean isInMethod(String words) {
        return Pattern.compile("(?<![\\w.])(?<![+*-] )" + Pattern.quote(words) + "(?!\\w)").matcher(body).find();
    }

    @Override
    public Void visitCompoundAssignment(CompoundAssignmentTree tree, Void none) {
        Due.edge("rule 7");
        if (tree.getKind() == Tree.Kind.DIVIDE_ASSIGNMENT || tree.getKind() == Tree.Kind.REMAINDER_ASSIGNMENT) {
            divides(tree.getExpression());
        }
        return super.visitCompoundAssignment(tree, none);
    }

    @Override
    public Void visitTypeCast(TypeCastTree tree, Void none) {
        Due.edge("rule 6");
        Due.due("casts are of numbers, " + lineOf(tree), tree.getType().getKind() == Tree.Kind.PRIMITIVE_TYPE, true);
        return super.visitTypeCast(tree, none);
    }

    @Override
    public Void visitClass(ClassTree tree, Void none) {
        Due.edge("rule 2");
        Due.due("no local class, " + lineOf(tree), method.isEmpty(), true);
        for (Tree member : tree.getMembers()) {
            Due.due("no block of its own, " + lineOf(member), member instanceof BlockTree, false);
        }
        return super.visitClass(tree, none);
    }

    @Override
    public Void visitLambdaExpression(LambdaExpressionTree tree, Void none) {
        never("rule 2: no lambda", tree);
        return null;
    }

    @Override
    public Void visitMemberReference(MemberReferenceTree tree, Void none) {
        never("rule 2: no method reference", tree);
        return null;
    }

    @Override
    public Void visitTry(TryTree tree, Void none) {
        never("rule 6: no try", tree);
        return null;
    }

    @Override
    public Void visitThrow(ThrowTree tree, Void none) {
        never("rule 6: no throw", tree);
        return null;
    }
}
