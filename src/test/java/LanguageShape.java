import com.sun.source.tree.AssertTree;
import com.sun.source.tree.BinaryTree;
import com.sun.source.tree.BlockTree;
import com.sun.source.tree.ClassTree;
import com.sun.source.tree.CompilationUnitTree;
import com.sun.source.tree.CompoundAssignmentTree;
import com.sun.source.tree.DoWhileLoopTree;
import com.sun.source.tree.ExpressionTree;
import com.sun.source.tree.ForLoopTree;
import com.sun.source.tree.ImportTree;
import com.sun.source.tree.LambdaExpressionTree;
import com.sun.source.tree.LiteralTree;
import com.sun.source.tree.MemberReferenceTree;
import com.sun.source.tree.MethodTree;
import com.sun.source.tree.NewClassTree;
import com.sun.source.tree.SwitchExpressionTree;
import com.sun.source.tree.SwitchTree;
import com.sun.source.tree.SynchronizedTree;
import com.sun.source.tree.ThrowTree;
import com.sun.source.tree.Tree;
import com.sun.source.tree.TryTree;
import com.sun.source.tree.TypeCastTree;
import com.sun.source.tree.VariableTree;
import com.sun.source.tree.WhileLoopTree;
import com.sun.source.util.TreePath;
import com.sun.source.util.TreePathScanner;
import com.sun.source.util.Trees;
import java.util.Set;
import javax.lang.model.element.Modifier;
import javax.lang.model.type.ArrayType;
import javax.lang.model.type.TypeKind;
import javax.lang.model.type.TypeMirror;

/** Rules 2, 3, 5, 6, 9, 10 and 11: what stands in the file, each by itself. */
final class LanguageShape extends TreePathScanner<Void, Void> {
    private static final Set<String> IMPORTS = Set.of("java.util.Arrays", "java.util.ArrayList", "java.util.List");
    private static final Set<String> CONSTANTS = Set.of("int", "long", "boolean", "char", "java.lang.String",
        "int[]", "long[]", "char[]", "byte[]");
    private static final Set<TypeKind> WHOLE = Set.of(TypeKind.INT, TypeKind.LONG, TypeKind.SHORT, TypeKind.BYTE,
        TypeKind.CHAR, TypeKind.BOOLEAN);

    private final CompilationUnitTree unit;
    private final Trees trees;
    private int classes = 0;

    LanguageShape(CompilationUnitTree unit, Trees trees) {
        this.unit = unit;
        this.trees = trees;
    }

    void all() {
        scan(unit, null);
        Check.due("the file's outer classes", unit.getTypeDecls().size(), 1);
        Check.holds("no package line", unit.getPackageName() == null);
        Check.holds("11: " + classes + " classes, some twelve at most", classes <= 12);
    }

    private void never(String what, Tree at) {
        long line = unit.getLineMap().getLineNumber(trees.getSourcePositions().getStartPosition(unit, at));
        Check.holds("line " + line + ": " + what, false);
    }

    private TypeMirror typeOf(Tree tree) {
        return trees.getTypeMirror(new TreePath(getCurrentPath(), tree));
    }

    /** Of the classes of this file. */
    private static boolean isOwn(TypeMirror type) {
        return type.toString().equals("LastKeg") || type.toString().startsWith("LastKeg.");
    }

    private static boolean isAllowed(TypeMirror type) {
        if (type.getKind() != TypeKind.ARRAY) {
            return WHOLE.contains(type.getKind()) || isOwn(type) || type.toString().equals("java.lang.String");
        }
        TypeMirror part = ((ArrayType) type).getComponentType();
        if (part.getKind() == TypeKind.ARRAY) {
            TypeMirror number = ((ArrayType) part).getComponentType();
            return WHOLE.contains(number.getKind()) && number.getKind() != TypeKind.BOOLEAN;
        }
        return WHOLE.contains(part.getKind()) || isOwn(part);
    }

    @Override
    public Void visitImport(ImportTree at, Void v) {
        String name = at.getQualifiedIdentifier().toString();
        Check.holds("4: import " + name, !at.isStatic() && IMPORTS.contains(name));
        return super.visitImport(at, v);
    }

    @Override
    public Void visitClass(ClassTree at, Void v) {
        classes++;
        Tree around = getCurrentPath().getParentPath().getLeaf();
        Check.holds("2: " + at.getSimpleName() + " stands in the file or in a class",
            around instanceof CompilationUnitTree || around instanceof ClassTree);
        boolean outer = around instanceof CompilationUnitTree;
        Set<Modifier> flags = at.getModifiers().getFlags();
        Check.holds("2: " + at.getSimpleName() + " is static", outer || flags.contains(Modifier.STATIC));
        Check.holds("1: " + at.getSimpleName() + " is seen as it may be", outer == flags.contains(Modifier.PUBLIC)
            && !flags.contains(Modifier.PROTECTED));
        int fields = 0;
        for (Tree member : at.getMembers()) {
            if (member instanceof VariableTree && !((VariableTree) member).getModifiers().getFlags().contains(Modifier.STATIC)) {
                fields++;
            }
            Check.holds("5: no block in " + at.getSimpleName(), !(member instanceof BlockTree));
        }
        Check.holds("11: " + at.getSimpleName() + " has some twenty fields", fields <= 20);
        return super.visitClass(at, v);
    }

    @Override
    public Void visitVariable(VariableTree at, Void v) {
        TypeMirror type = typeOf(at);
        Check.holds("3: the type of " + at, isAllowed(type));
        Set<Modifier> flags = at.getModifiers().getFlags();
        if (flags.contains(Modifier.STATIC)) {
            Check.holds("5: " + at + " is final", flags.contains(Modifier.FINAL));
            Check.holds("5: the type of " + at, CONSTANTS.contains(type.toString()));
            Check.holds("5: " + at + " is written out", at.getInitializer() != null);
        }
        Check.holds("5: no other flag of " + at, !flags.contains(Modifier.VOLATILE) && !flags.contains(Modifier.TRANSIENT));
        return super.visitVariable(at, v);
    }

    @Override
    public Void visitMethod(MethodTree at, Void v) {
        Check.holds("11: " + at.getName() + " takes at most seven", at.getParameters().size() <= 7);
        Check.holds("6: " + at.getName() + " names no exception", at.getThrows().isEmpty());
        Check.holds("6: no " + at.getName(), !Set.of("equals", "hashCode", "toString", "finalize", "clone")
            .contains(at.getName().toString()));
        Tree result = at.getReturnType();
        Check.holds("3: what " + at.getName() + " answers",
            result == null || typeOf(result).getKind() == TypeKind.VOID || isAllowed(typeOf(result)));
        long first = unit.getLineMap().getLineNumber(trees.getSourcePositions().getStartPosition(unit, at));
        long last = unit.getLineMap().getLineNumber(Math.max(0, trees.getSourcePositions().getEndPosition(unit, at)));
        Check.holds("11: " + at.getName() + " is short", last - first < 60);
        return super.visitMethod(at, v);
    }

    @Override
    public Void visitThrow(ThrowTree at, Void v) {
        never("6: throw", at);
        return super.visitThrow(at, v);
    }

    @Override
    public Void visitTry(TryTree at, Void v) {
        never("6: try", at);
        return super.visitTry(at, v);
    }

    @Override
    public Void visitSynchronized(SynchronizedTree at, Void v) {
        never("6: synchronized", at);
        return super.visitSynchronized(at, v);
    }

    @Override
    public Void visitAssert(AssertTree at, Void v) {
        never("6: assert", at);
        return super.visitAssert(at, v);
    }

    @Override
    public Void visitLambdaExpression(LambdaExpressionTree at, Void v) {
        never("2: a lambda", at);
        return super.visitLambdaExpression(at, v);
    }

    @Override
    public Void visitMemberReference(MemberReferenceTree at, Void v) {
        never("2: a method reference", at);
        return super.visitMemberReference(at, v);
    }

    @Override
    public Void visitNewClass(NewClassTree at, Void v) {
        if (at.getClassBody() != null) {
            never("2: a class without a name", at);
        }
        return super.visitNewClass(at, v);
    }

    /** Any cast to a class would have to stand behind its test; the class does without. */
    @Override
    public Void visitTypeCast(TypeCastTree at, Void v) {
        Check.holds("6: the cast " + at, typeOf(at.getType()).getKind().isPrimitive());
        return super.visitTypeCast(at, v);
    }

    @Override
    public Void visitSwitch(SwitchTree at, Void v) {
        Check.holds("10: a switch on numbers", typeOf(at.getExpression()).getKind().isPrimitive());
        return super.visitSwitch(at, v);
    }

    @Override
    public Void visitSwitchExpression(SwitchExpressionTree at, Void v) {
        Check.holds("10: a switch on numbers", typeOf(at.getExpression()).getKind().isPrimitive());
        return super.visitSwitchExpression(at, v);
    }

    @Override
    public Void visitForLoop(ForLoopTree at, Void v) {
        Check.holds("9: a for has its end", at.getCondition() != null && !at.getUpdate().isEmpty());
        return super.visitForLoop(at, v);
    }

    @Override
    public Void visitWhileLoop(WhileLoopTree at, Void v) {
        endIsSeen(at.getCondition(), at.getStatement());
        return super.visitWhileLoop(at, v);
    }

    @Override
    public Void visitDoWhileLoop(DoWhileLoopTree at, Void v) {
        endIsSeen(at.getCondition(), at.getStatement());
        return super.visitDoWhileLoop(at, v);
    }

    /** A while holds a counter against a bound, first of all, and its body moves that counter. */
    private void endIsSeen(ExpressionTree condition, Tree body) {
        String said = condition.toString();
        String counter = said.replaceAll("^\\(+(\\w+) < \\w+\\b.*$", "$1");
        Check.holds("9: while " + said + " has its end", body.toString().contains(counter + "++"));
    }

    @Override
    public Void visitBinary(BinaryTree at, Void v) {
        TypeMirror left = typeOf(at.getLeftOperand());
        TypeMirror right = typeOf(at.getRightOperand());
        boolean compares = at.getKind() == Tree.Kind.EQUAL_TO || at.getKind() == Tree.Kind.NOT_EQUAL_TO;
        Check.holds("6, 10: " + at, left.getKind().isPrimitive() && right.getKind().isPrimitive()
            || compares && (right.getKind() == TypeKind.NULL || isOwn(left) && isOwn(right)));
        return super.visitBinary(at, v);
    }

    @Override
    public Void visitCompoundAssignment(CompoundAssignmentTree at, Void v) {
        Check.holds("10: " + at, typeOf(at.getVariable()).getKind().isPrimitive());
        return super.visitCompoundAssignment(at, v);
    }

    @Override
    public Void visitLiteral(LiteralTree at, Void v) {
        Check.holds("3: the number " + at, at.getKind() != Tree.Kind.DOUBLE_LITERAL && at.getKind() != Tree.Kind.FLOAT_LITERAL);
        String said = String.valueOf(at.getValue());
        for (int i = 0; i < said.length(); i++) {
            Check.holds("4: signs of " + said, said.charAt(i) >= 1 && said.charAt(i) <= 127);
        }
        return super.visitLiteral(at, v);
    }
}
