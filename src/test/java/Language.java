import com.sun.source.tree.ArrayTypeTree;
import com.sun.source.tree.AssignmentTree;
import com.sun.source.tree.BinaryTree;
import com.sun.source.tree.BlockTree;
import com.sun.source.tree.ClassTree;
import com.sun.source.tree.CompilationUnitTree;
import com.sun.source.tree.ExpressionTree;
import com.sun.source.tree.IdentifierTree;
import com.sun.source.tree.LiteralTree;
import com.sun.source.tree.MemberSelectTree;
import com.sun.source.tree.MethodInvocationTree;
import com.sun.source.tree.MethodTree;
import com.sun.source.tree.NewArrayTree;
import com.sun.source.tree.ParenthesizedTree;
import com.sun.source.tree.PrimitiveTypeTree;
import com.sun.source.tree.Tree;
import com.sun.source.tree.Tree.Kind;
import com.sun.source.tree.TypeCastTree;
import com.sun.source.tree.UnaryTree;
import com.sun.source.tree.VariableTree;
import com.sun.source.util.JavacTask;
import com.sun.source.util.TreePath;
import com.sun.source.util.TreePathScanner;
import com.sun.source.util.Trees;
import java.io.IOException;
import java.net.URI;
import java.util.EnumSet;
import java.util.HashMap;
import java.util.HashSet;
import java.util.List;
import java.util.Map;
import java.util.Set;
import java.util.TreeSet;
import javax.lang.model.element.Modifier;
import javax.lang.model.element.Name;
import javax.lang.model.type.TypeKind;
import javax.tools.JavaFileObject;
import javax.tools.SimpleJavaFileObject;
import javax.tools.ToolProvider;

/**
 * Looks for what LANGUAGE.md rules out, as far as the syntax alone shows it. That no call throws and that every loop
 * ends is left to the tests that make calls.
 */
final class Language extends TreePathScanner<Void, Void> {
    private static final Set<Kind> FORBIDDEN = EnumSet.of(
        Kind.THROW, Kind.TRY, Kind.CATCH, Kind.SYNCHRONIZED, Kind.ASSERT, Kind.INSTANCE_OF, Kind.LAMBDA_EXPRESSION,
        Kind.MEMBER_REFERENCE);
    private static final Set<Kind> LOOPS = EnumSet.of(Kind.FOR_LOOP, Kind.WHILE_LOOP, Kind.DO_WHILE_LOOP);
    private static final Set<Kind> CONDITIONS = EnumSet.of(Kind.IF, Kind.SWITCH, Kind.CONDITIONAL_EXPRESSION);
    private static final Set<TypeKind> NUMBERS = EnumSet.of(
        TypeKind.INT, TypeKind.LONG, TypeKind.SHORT, TypeKind.BYTE, TypeKind.CHAR, TypeKind.BOOLEAN);
    private static final String CONSTRUCTOR = "<init>/2";
    private static final int MOST_PARAMETERS = 7;
    private static final int MOST_LINES = 60;
    private static final int MOST_CALLS_DEEP = 6;
    private static final int MOST_FIELDS = 40;

    private final Set<String> broken = new TreeSet<>();
    private final Set<String> methods = new HashSet<>();
    private final Set<String> constants = new HashSet<>();
    private final Set<String> arrayFields = new HashSet<>();
    private final Map<String, Set<String>> callsOf = new HashMap<>();
    private final CompilationUnitTree unit;
    private final Trees trees;
    private Name className;
    private int fields = 0;

    private Language(CompilationUnitTree unit, Trees trees) {
        this.unit = unit;
        this.trees = trees;
    }

    /** What is broken in this source, each as 'rule N, line L: what'. */
    static Set<String> brokenIn(String source) throws IOException {
        URI place = URI.create("string:///RevokeQuarantine.java");
        JavaFileObject file = new SimpleJavaFileObject(place, JavaFileObject.Kind.SOURCE) {
            @Override
            public CharSequence getCharContent(boolean ignoreEncodingErrors) {
                return source;
            }
        };
        JavacTask task = (JavacTask) ToolProvider.getSystemJavaCompiler()
            .getTask(null, null, null, List.of("-proc:none"), null, List.of(file));
        Language language = new Language(task.parse().iterator().next(), Trees.instance(task));
        language.wholeFile();
        return language.broken;
    }

    private void wholeFile() {
        check(unit.getPackageName() == null && unit.getTypeDecls().size() == 1, 1, unit, "one class without a package");
        check(unit.getImports().isEmpty(), 3, unit, "nothing is imported");
        gatherNames((ClassTree) unit.getTypeDecls().get(0));
        scan(unit, null);
        check(fields <= MOST_FIELDS, 10, unit, fields + " fields");
        for (String method : methods) {
            int depth = depth(method, new HashSet<>());
            check(depth < Integer.MAX_VALUE, 8, unit, method + " comes back to itself");
            check(depth <= MOST_CALLS_DEEP || depth == Integer.MAX_VALUE, 10, unit, method + " calls " + depth + " deep");
        }
    }

    private void gatherNames(ClassTree face) {
        className = face.getSimpleName();
        for (Tree member : face.getMembers()) {
            if (member instanceof MethodTree method) {
                methods.add(key(method));
            } else if (member instanceof VariableTree field) {
                Set<String> kin = isStatic(field) ? constants : arrayFields;
                if (isStatic(field) || field.getType() instanceof ArrayTypeTree) {
                    kin.add(field.getName().toString());
                }
            }
        }
    }

    /** How many methods stand above one another when this one is called; MAX_VALUE if it comes back to itself. */
    private int depth(String method, Set<String> open) {
        if (!open.add(method)) {
            return Integer.MAX_VALUE;
        }
        int below = 0;
        for (String called : callsOf.getOrDefault(method, Set.of())) {
            below = Math.max(below, depth(called, open));
        }
        open.remove(method);
        return below == Integer.MAX_VALUE ? below : below + 1;
    }

    @Override
    public Void scan(Tree tree, Void nothing) {
        if (tree != null) {
            check(!FORBIDDEN.contains(tree.getKind()), 6, tree, "no " + tree.getKind());
            check(tree.getKind() != Kind.NEW_CLASS, 4, tree, "no object is made");
        }
        return super.scan(tree, nothing);
    }

    @Override
    public Void visitClass(ClassTree tree, Void nothing) {
        check(getCurrentPath().getParentPath().getLeaf() == unit, 1, tree, "no nested class");
        check(tree.getKind() == Kind.CLASS && tree.getModifiers().getFlags().equals(Set.of(Modifier.PUBLIC, Modifier.FINAL)),
            1, tree, "a public final class");
        check(tree.getExtendsClause() == null && tree.getImplementsClause().isEmpty(), 3, tree, "it extends nothing");
        return super.visitClass(tree, nothing);
    }

    @Override
    public Void visitMethod(MethodTree tree, Void nothing) {
        check(tree.getParameters().size() <= MOST_PARAMETERS, 10, tree, tree.getName() + " has too many parameters");
        check(lines(tree) <= MOST_LINES, 10, tree, tree.getName() + " has " + lines(tree) + " lines");
        check(tree.getReturnType() == null || tree.getReturnType() instanceof PrimitiveTypeTree, 4, tree,
            tree.getName() + " answers a number or nothing");
        check(tree.getThrows().isEmpty(), 6, tree, tree.getName() + " throws nothing");
        return super.visitMethod(tree, nothing);
    }

    @Override
    public Void visitVariable(VariableTree tree, Void nothing) {
        boolean isArray = tree.getType() instanceof ArrayTypeTree;
        // A local 'var' has no written type; what it is made from is looked at anyway.
        check(tree.getType() == null || isNumber(isArray ? ((ArrayTypeTree) tree.getType()).getType() : tree.getType()),
            2, tree, tree.getName() + " is a number, a boolean or a row of them");
        if (isField(getCurrentPath())) {
            fields += isStatic(tree) ? 0 : 1;
            if (isStatic(tree)) {
                boolean isWhole = Set.of("int", "long").contains(tree.getType().toString());
                check(isWhole && tree.getModifiers().getFlags().contains(Modifier.FINAL) && isConstant(tree.getInitializer()),
                    5, tree, tree.getName() + " is a constant of int or long");
            }
        }
        return super.visitVariable(tree, nothing);
    }

    @Override
    public Void visitBlock(BlockTree tree, Void nothing) {
        check(!tree.isStatic(), 5, tree, "no static initialiser");
        return super.visitBlock(tree, nothing);
    }

    @Override
    public Void visitNewArray(NewArrayTree tree, Void nothing) {
        boolean mayNotBeOnce = false;
        for (Tree above : getCurrentPath()) {
            mayNotBeOnce |= LOOPS.contains(above.getKind()) || CONDITIONS.contains(above.getKind());
        }
        String method = methodAround();
        check(!mayNotBeOnce && (method.isEmpty() || method.equals(CONSTRUCTOR)), 4, tree,
            "an array is made once and at the start");
        check(tree.getInitializers() == null && tree.getDimensions().size() == 1 && isConstant(tree.getDimensions().get(0)),
            4, tree, "an array has one length, a literal or a constant");
        return super.visitNewArray(tree, nothing);
    }

    @Override
    public Void visitAssignment(AssignmentTree tree, Void nothing) {
        check(!arrayFields.contains(ownName(tree.getVariable())) || methodAround().equals(CONSTRUCTOR), 4, tree,
            "no method assigns to an array field");
        return super.visitAssignment(tree, nothing);
    }

    @Override
    public Void visitLiteral(LiteralTree tree, Void nothing) {
        check(tree.getKind() != Kind.NULL_LITERAL, 4, tree, "null isn't used");
        check(!EnumSet.of(Kind.STRING_LITERAL, Kind.FLOAT_LITERAL, Kind.DOUBLE_LITERAL).contains(tree.getKind()), 2, tree,
            "no " + tree.getKind());
        return super.visitLiteral(tree, nothing);
    }

    @Override
    public Void visitTypeCast(TypeCastTree tree, Void nothing) {
        check(isNumber(tree.getType()), 6, tree, "a cast is between the number types");
        return super.visitTypeCast(tree, nothing);
    }

    @Override
    public Void visitMemberSelect(MemberSelectTree tree, Void nothing) {
        check(isSelf(tree.getExpression()) || tree.getIdentifier().contentEquals("length"), 3, tree,
            "nothing of another class: " + tree);
        return super.visitMemberSelect(tree, nothing);
    }

    @Override
    public Void visitMethodInvocation(MethodInvocationTree tree, Void nothing) {
        String called = ownName(tree.getMethodSelect()) + "/" + tree.getArguments().size();
        check(methods.contains(called) || called.equals("super/0"), 3, tree,
            "only methods of the class are called: " + called);
        for (Tree above : getCurrentPath().getParentPath()) {
            check(above.getKind() != Kind.METHOD_INVOCATION, 10, tree, "no call inside the arguments of a call: " + above);
        }
        callsOf.computeIfAbsent(methodAround(), caller -> new HashSet<>()).add(called);
        return super.visitMethodInvocation(tree, nothing);
    }

    private boolean isSelf(ExpressionTree tree) {
        return tree instanceof IdentifierTree name
            && (name.getName().contentEquals("this") || name.getName().equals(className));
    }

    /** The name of a member of the class, with or without 'this.' before it, or else what stands there. */
    private String ownName(ExpressionTree tree) {
        boolean isSelected = tree instanceof MemberSelectTree select && isSelf(select.getExpression());
        return isSelected ? ((MemberSelectTree) tree).getIdentifier().toString() : tree.toString();
    }

    private static String key(MethodTree tree) {
        return tree.getName() + "/" + tree.getParameters().size();
    }

    private boolean isConstant(ExpressionTree tree) {
        if (tree instanceof ParenthesizedTree inner) {
            return isConstant(inner.getExpression());
        }
        if (tree instanceof UnaryTree sign) {
            return isConstant(sign.getExpression());
        }
        if (tree instanceof BinaryTree sum) {
            return isConstant(sum.getLeftOperand()) && isConstant(sum.getRightOperand());
        }
        return tree instanceof LiteralTree || tree != null && constants.contains(ownName(tree));
    }

    private static boolean isNumber(Tree type) {
        return type instanceof PrimitiveTypeTree primitive && NUMBERS.contains(primitive.getPrimitiveTypeKind());
    }

    private static boolean isStatic(VariableTree tree) {
        return tree.getModifiers().getFlags().contains(Modifier.STATIC);
    }

    private static boolean isField(TreePath path) {
        return path.getParentPath().getLeaf() instanceof ClassTree;
    }

    private String methodAround() {
        for (Tree above : getCurrentPath()) {
            if (above instanceof MethodTree method) {
                return key(method);
            }
        }
        return "";
    }

    private long lines(Tree tree) {
        return lineOf(trees.getSourcePositions().getEndPosition(unit, tree)) - lineOf(start(tree)) + 1;
    }

    private long start(Tree tree) {
        return trees.getSourcePositions().getStartPosition(unit, tree);
    }

    private long lineOf(long position) {
        return position < 0 ? 0 : unit.getLineMap().getLineNumber(position);
    }

    private void check(boolean holds, int rule, Tree tree, String what) {
        if (!holds) {
            broken.add("rule " + rule + ", line " + lineOf(start(tree)) + ": " + what);
        }
    }
}
