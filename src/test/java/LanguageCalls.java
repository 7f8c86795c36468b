import com.sun.source.tree.ArrayAccessTree;
import com.sun.source.tree.AssignmentTree;
import com.sun.source.tree.ClassTree;
import com.sun.source.tree.CompilationUnitTree;
import com.sun.source.tree.CompoundAssignmentTree;
import com.sun.source.tree.DoWhileLoopTree;
import com.sun.source.tree.ExpressionTree;
import com.sun.source.tree.MemberSelectTree;
import com.sun.source.tree.MethodInvocationTree;
import com.sun.source.tree.MethodTree;
import com.sun.source.tree.NewArrayTree;
import com.sun.source.tree.NewClassTree;
import com.sun.source.tree.Tree;
import com.sun.source.tree.UnaryTree;
import com.sun.source.tree.WhileLoopTree;
import com.sun.source.util.TreePath;
import com.sun.source.util.TreePathScanner;
import com.sun.source.util.Trees;
import java.util.ArrayList;
import java.util.HashMap;
import java.util.HashSet;
import java.util.LinkedHashMap;
import java.util.List;
import java.util.Map;
import java.util.Set;
import java.util.TreeSet;
import javax.lang.model.element.Element;
import javax.lang.model.element.ElementKind;
import javax.lang.model.element.ExecutableElement;
import javax.lang.model.element.Modifier;
import javax.lang.model.element.TypeElement;
import javax.lang.model.element.VariableElement;
import javax.lang.model.type.DeclaredType;
import javax.lang.model.type.TypeKind;

/** Rules 4, 5, 8, 11, 12 and 13: what calls what, what is made where, what is written to. */
final class LanguageCalls extends TreePathScanner<Void, Void> {
    /** Of the library the class takes these alone; LANGUAGE.md would let it take more. */
    private static final Set<String> LIBRARY = Set.of("java.lang.String.length", "java.lang.String.charAt",
        "java.lang.Integer.bitCount", "java.lang.Math.min", "java.lang.Math.max", "java.lang.Math.abs",
        "java.lang.System.arraycopy", "java.util.Arrays.copyOf", "java.util.Arrays.fill", "java.lang.Object.<init>");
    /** What a run makes is counted by these: 4 SHEETS, 8 RULES, 5 TEXTS, an IMAGE. */
    private static final Set<String> MAKERS = Set.of("LastKeg.<init>", "LastKeg.ruleOf", "LastKeg.text", "LastKeg.image");
    private static final int DEEPEST = 8;

    private final CompilationUnitTree unit;
    private final Trees trees;
    private final Map<ExecutableElement, Set<ExecutableElement>> calls = new LinkedHashMap<>();
    private final Map<ExecutableElement, Integer> depths = new HashMap<>();

    LanguageCalls(CompilationUnitTree unit, Trees trees) {
        this.unit = unit;
        this.trees = trees;
    }

    void all() {
        new Declared().scan(unit, null);
        scan(unit, null);
        recursion();
        for (ExecutableElement m : calls.keySet()) {
            int deep = depth(m);
            Check.holds("11: " + name(m) + " goes " + deep + " deep", deep <= DEEPEST);
        }
    }

    /** The methods of the file, ahead of who calls them. */
    private final class Declared extends TreePathScanner<Void, Void> {
        @Override
        public Void visitMethod(MethodTree at, Void v) {
            calls.put((ExecutableElement) trees.getElement(getCurrentPath()), new HashSet<>());
            return super.visitMethod(at, v);
        }
    }

    private static String name(Element e) {
        return e.getEnclosingElement() + "." + e.getSimpleName();
    }

    private Element elementOf(Tree tree) {
        return trees.getElement(new TreePath(getCurrentPath(), tree));
    }

    /** The method around; null in a field's first value. */
    private ExecutableElement around() {
        for (TreePath p = getCurrentPath(); p != null; p = p.getParentPath()) {
            if (p.getLeaf() instanceof MethodTree) {
                return (ExecutableElement) trees.getElement(p);
            }
            if (p.getLeaf() instanceof ClassTree) {
                return null;
            }
        }
        return null;
    }

    private boolean isIn(Class<? extends Tree> kind) {
        for (TreePath p = getCurrentPath(); p != null; p = p.getParentPath()) {
            if (kind.isInstance(p.getLeaf())) {
                return true;
            }
        }
        return false;
    }

    private static boolean isBelow(TypeElement type, Element above) {
        for (TypeElement t = type; t != null; ) {
            if (t.equals(above)) {
                return true;
            }
            t = t.getSuperclass().getKind() == TypeKind.DECLARED
                ? (TypeElement) ((DeclaredType) t.getSuperclass()).asElement() : null;
        }
        return false;
    }

    @Override
    public Void visitMethodInvocation(MethodInvocationTree at, Void v) {
        ExecutableElement called = (ExecutableElement) elementOf(at.getMethodSelect());
        ExecutableElement from = around();
        if (!calls.containsKey(called)) {
            boolean free = called.getKind() == ElementKind.CONSTRUCTOR || LIBRARY.contains(name(called));
            Check.holds("4: " + name(called), free);
        } else if (from != null) {
            ExpressionTree select = at.getMethodSelect();
            boolean isSuper = select instanceof MemberSelectTree
                && ((MemberSelectTree) select).getExpression().toString().equals("super");
            calls.get(from).add(called);
            if (!isSuper && called.getKind() == ElementKind.METHOD) {
                overriders(called, from);
            }
        }
        if (from != null && from.getKind() == ElementKind.CONSTRUCTOR && calls.containsKey(called)) {
            Check.holds("12: " + name(from) + " calls nothing that another class could override",
                called.getKind() == ElementKind.CONSTRUCTOR || called.getModifiers().contains(Modifier.PRIVATE)
                || called.getModifiers().contains(Modifier.STATIC));
        }
        if (Set.of("copyOf", "copyOfRange", "clone").contains(called.getSimpleName().toString())) {
            made(at);
        }
        return super.visitMethodInvocation(at, v);
    }

    private void overriders(ExecutableElement called, ExecutableElement from) {
        for (ExecutableElement m : calls.keySet()) {
            if (m.getSimpleName().equals(called.getSimpleName())
                && isBelow((TypeElement) m.getEnclosingElement(), called.getEnclosingElement())) {
                calls.get(from).add(m);
            }
        }
    }

    @Override
    public Void visitNewClass(NewClassTree at, Void v) {
        Element made = elementOf(at);
        Check.holds("4: new " + made.getEnclosingElement(), calls.containsKey(made) || isOwn(made.getEnclosingElement()));
        if (around() != null && calls.containsKey(made)) {
            calls.get(around()).add((ExecutableElement) made);
        }
        made(at);
        return super.visitNewClass(at, v);
    }

    private static boolean isOwn(Element type) {
        return type.toString().startsWith("LastKeg");
    }

    @Override
    public Void visitNewArray(NewArrayTree at, Void v) {
        made(at);
        return super.visitNewArray(at, v);
    }

    private void made(Tree at) {
        ExecutableElement from = around();
        Check.holds("12: " + at + " is made where it is counted",
            from == null || from.getKind() == ElementKind.CONSTRUCTOR || MAKERS.contains(name(from)));
        Check.holds("12: " + at + " is made in no while", !isIn(WhileLoopTree.class) && !isIn(DoWhileLoopTree.class));
    }

    @Override
    public Void visitAssignment(AssignmentTree at, Void v) {
        written(at.getVariable());
        return super.visitAssignment(at, v);
    }

    @Override
    public Void visitCompoundAssignment(CompoundAssignmentTree at, Void v) {
        written(at.getVariable());
        return super.visitCompoundAssignment(at, v);
    }

    @Override
    public Void visitUnary(UnaryTree at, Void v) {
        if (Set.of(Tree.Kind.POSTFIX_INCREMENT, Tree.Kind.POSTFIX_DECREMENT, Tree.Kind.PREFIX_INCREMENT,
            Tree.Kind.PREFIX_DECREMENT).contains(at.getKind())) {
            written(at.getExpression());
        }
        return super.visitUnary(at, v);
    }

    /** Neither a static field nor an element of a static array. */
    private void written(ExpressionTree to) {
        ExpressionTree inner = to;
        while (inner instanceof ArrayAccessTree) {
            inner = ((ArrayAccessTree) inner).getExpression();
        }
        Element e = elementOf(inner);
        Check.holds("5: " + to + " is no constant", !(e instanceof VariableElement)
            || !e.getModifiers().contains(Modifier.STATIC));
    }

    private Set<ExecutableElement> reached(ExecutableElement from) {
        Set<ExecutableElement> all = new HashSet<>();
        List<ExecutableElement> open = new ArrayList<>(calls.get(from));
        while (!open.isEmpty()) {
            ExecutableElement m = open.remove(open.size() - 1);
            if (all.add(m)) {
                open.addAll(calls.get(m));
            }
        }
        return all;
    }

    /** Who calls itself, by others too, is private and is told how deep it stands. */
    private void recursion() {
        Set<String> circles = new TreeSet<>();
        for (ExecutableElement m : calls.keySet()) {
            if (reached(m).contains(m)) {
                circles.add(name(m));
                boolean told = false;
                for (VariableElement p : m.getParameters()) {
                    told |= p.getSimpleName().contentEquals("open");
                }
                Check.holds("8: " + name(m) + " is private and is told how many are open",
                    told && m.getModifiers().contains(Modifier.PRIVATE));
            }
        }
        Check.holds("8: recursion in the reading of texts alone: " + circles,
            circles.equals(Set.of("LastKeg.Tape.level", "LastKeg.Tape.one")));
    }

    /** Calls that stand open at once, itself among them; those of a circle once each. */
    private int depth(ExecutableElement m) {
        Integer known = depths.get(m);
        if (known != null) {
            return known;
        }
        Set<ExecutableElement> circle = new HashSet<>();
        for (ExecutableElement o : reached(m)) {
            if (calls.containsKey(o) && reached(o).contains(m)) {
                circle.add(o);
            }
        }
        circle.add(m);
        int deepest = 0;
        for (ExecutableElement o : circle) {
            for (ExecutableElement next : calls.get(o)) {
                if (!circle.contains(next)) {
                    deepest = Math.max(deepest, depth(next));
                }
            }
        }
        depths.put(m, deepest + circle.size());
        return deepest + circle.size();
    }
}
