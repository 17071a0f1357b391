import com.sun.source.tree.*;
import com.sun.source.util.JavacTask;
import com.sun.source.util.SourcePositions;
import com.sun.source.util.TreePath;
import com.sun.source.util.TreePathScanner;
import com.sun.source.util.TreeScanner;
import com.sun.source.util.Trees;
import java.io.IOException;
import java.net.URI;
import java.util.ArrayList;
import java.util.EnumSet;
import java.util.HashMap;
import java.util.HashSet;
import java.util.List;
import java.util.Map;
import java.util.Set;
import java.util.TreeMap;
import java.util.TreeSet;
import javax.lang.model.element.Modifier;
import javax.lang.model.type.TypeKind;
import javax.tools.JavaFileObject;
import javax.tools.SimpleJavaFileObject;
import javax.tools.ToolProvider;

/**
 * Reads a source with the compiler's own parser, and tells where it breaks a
 * rule of LANGUAGE.md. Rule 7 can't be read off a source (AnyCallTest tries
 * it), rule 9 forbids nothing, and rule 11 holds where no other class is used
 * (rule 3). In rules 4 and 8 this is stricter than it must be: no method
 * assigns to the name of an array, and every loop is a for that counts up to a
 * constant.
 */
final class LanguageRules extends TreePathScanner<Void, Void> {
    private static final int MOST_LINES = 60;
    private static final int MOST_PARAMETERS = 7;
    private static final int MOST_FIELDS = 40;
    private static final int DEEPEST_CALLS = 6;
    private static final String CONSTRUCTOR = "<init>";

    /** What may not stand anywhere, with the number of the rule that says so. */
    private static final Map<Tree.Kind, Integer> FORBIDDEN = Map.ofEntries(
            Map.entry(Tree.Kind.IMPORT, 3), Map.entry(Tree.Kind.ANNOTATION, 3), Map.entry(Tree.Kind.NEW_CLASS, 4),
            Map.entry(Tree.Kind.THROW, 6), Map.entry(Tree.Kind.TRY, 6), Map.entry(Tree.Kind.SYNCHRONIZED, 6),
            Map.entry(Tree.Kind.ASSERT, 6), Map.entry(Tree.Kind.INSTANCE_OF, 6),
            Map.entry(Tree.Kind.LAMBDA_EXPRESSION, 6), Map.entry(Tree.Kind.MEMBER_REFERENCE, 6),
            Map.entry(Tree.Kind.WHILE_LOOP, 8), Map.entry(Tree.Kind.DO_WHILE_LOOP, 8));

    private static final Set<Tree.Kind> UP = EnumSet.of(Tree.Kind.POSTFIX_INCREMENT, Tree.Kind.PREFIX_INCREMENT);
    private static final Set<Tree.Kind> DOWN = EnumSet.of(Tree.Kind.POSTFIX_DECREMENT, Tree.Kind.PREFIX_DECREMENT);

    private final CompilationUnitTree unit;
    private final SourcePositions positions;
    private final List<String> breaches = new ArrayList<>();

    private final Set<String> variables = new HashSet<>();
    private final Set<String> arrays = new HashSet<>();
    private final Map<String, Long> constants = new HashMap<>();
    private final Set<String> publicMethods = new HashSet<>();
    private final Map<String, Set<String>> calls = new TreeMap<>();
    private String method = "";
    private int fields;

    private LanguageRules(CompilationUnitTree unit, SourcePositions positions) {
        this.unit = unit;
        this.positions = positions;
    }

    /** The breaches in the source, each beginning with "rule" and its number. */
    static List<String> breachesIn(String source) throws IOException {
        JavaFileObject file = new SimpleJavaFileObject(URI.create("string:///ReplayFlow.java"), JavaFileObject.Kind.SOURCE) {
            @Override
            public CharSequence getCharContent(boolean ignoreEncodingErrors) {
                return source;
            }
        };
        JavacTask task = (JavacTask) ToolProvider.getSystemJavaCompiler().getTask(null, null, null, null, null, List.of(file));
        CompilationUnitTree unit = task.parse().iterator().next();
        LanguageRules rules = new LanguageRules(unit, Trees.instance(task).getSourcePositions());
        rules.collectNames();
        rules.scan(unit, null);
        rules.lookAtCalls();
        return rules.breaches;
    }

    private void allow(boolean allowed, int rule, String otherwise, Tree where) {
        if (!allowed) {
            breaches.add("rule " + rule + ": " + otherwise + ", line " + lineOf(positions.getStartPosition(unit, where)));
        }
    }

    private Void forbid(int rule, String what, Tree where) {
        allow(false, rule, what, where);
        return null;
    }

    private long lineOf(long position) {
        return unit.getLineMap().getLineNumber(position);
    }

    private Tree parent() {
        return parent(1);
    }

    private Tree parent(int levels) {
        TreePath path = getCurrentPath();
        for (int i = 0; i < levels; i++) {
            path = path.getParentPath();
        }
        return path.getLeaf();
    }

    /** The names come first: a method may use what stands further down. */
    private void collectNames() {
        new TreeScanner<Void, Void>() {
            @Override
            public Void visitVariable(VariableTree node, Void p) {
                String name = node.getName().toString();
                variables.add(name);
                if (node.getType() instanceof ArrayTypeTree) {
                    arrays.add(name);
                }
                if (node.getModifiers().getFlags().containsAll(Set.of(Modifier.STATIC, Modifier.FINAL))) {
                    constants.put(name, valueOf(node.getInitializer()));
                }
                return super.visitVariable(node, p);
            }

            @Override
            public Void visitMethod(MethodTree node, Void p) {
                String name = node.getName().toString();
                calls.put(name, new TreeSet<>());
                if (node.getModifiers().getFlags().contains(Modifier.PUBLIC)) {
                    publicMethods.add(name);
                }
                return super.visitMethod(node, p);
            }
        }.scan(unit, null);
    }

    /** The number that a literal, perhaps with a minus, or a constant stands for; null if it is neither. */
    private Long valueOf(Tree expression) {
        if (expression instanceof LiteralTree literal && literal.getValue() instanceof Number number) {
            return number.longValue();
        }
        if (expression instanceof UnaryTree unary && unary.getKind() == Tree.Kind.UNARY_MINUS) {
            Long value = valueOf(unary.getExpression());
            return value == null ? null : Long.valueOf(-value);
        }
        return expression instanceof IdentifierTree named ? constants.get(named.getName().toString()) : null;
    }

    @Override
    public Void scan(Tree tree, Void p) {
        Integer rule = tree == null ? null : FORBIDDEN.get(tree.getKind());
        return rule == null ? super.scan(tree, p) : forbid(rule, tree.getKind().toString(), tree);
    }

    @Override
    public Void visitCompilationUnit(CompilationUnitTree node, Void p) {
        allow(node.getPackageName() == null, 1, "a package line", node);
        allow(node.getTypeDecls().size() == 1, 1, "more than one class", node);
        return super.visitCompilationUnit(node, p);
    }

    @Override
    public Void visitClass(ClassTree node, Void p) {
        if (parent() != unit) {
            return forbid(1, "a nested class", node);
        }
        boolean plain = node.getKind() == Tree.Kind.CLASS && node.getExtendsClause() == null
                && node.getImplementsClause().isEmpty() && node.getTypeParameters().isEmpty();
        Set<Modifier> flags = node.getModifiers().getFlags();
        allow(plain && flags.equals(Set.of(Modifier.PUBLIC, Modifier.FINAL)), 1, "not a plain class, public and final", node);
        super.visitClass(node, p);
        allow(fields <= MOST_FIELDS, 10, fields + " fields", node);
        return null;
    }

    @Override
    public Void visitMethod(MethodTree node, Void p) {
        method = node.getName().toString();
        Set<Modifier> flags = node.getModifiers().getFlags();
        allow(flags.contains(Modifier.PUBLIC) || flags.contains(Modifier.PRIVATE), 1, method + " is visible", node);
        boolean nameTaken = flags.contains(Modifier.PRIVATE) && publicMethods.contains(method);
        allow(!nameTaken, 1, "a private method has a public one's name, " + method, node);
        allow(node.getReturnType() == null || isNumber(node.getReturnType()), 2, method + " answers no number", node);
        allow(!(node.getReturnType() instanceof ArrayTypeTree), 4, method + " answers an array", node);
        allow(node.getThrows().isEmpty() && !flags.contains(Modifier.SYNCHRONIZED), 6, method + " throws or is synchronized", node);
        allow(node.getParameters().size() <= MOST_PARAMETERS, 10, method + " has too many parameters", node);
        long lines = lineOf(positions.getEndPosition(unit, node)) - lineOf(positions.getStartPosition(unit, node)) + 1;
        allow(lines <= MOST_LINES, 10, method + " has " + lines + " lines", node);
        super.visitMethod(node, p);
        method = "";
        return null;
    }

    private static boolean isNumber(Tree type) {
        return type instanceof PrimitiveTypeTree || type instanceof ArrayTypeTree;
    }

    @Override
    public Void visitVariable(VariableTree node, Void p) {
        allow(isNumber(node.getType()), 2, node.getName() + " is no number", node);
        if (parent() instanceof ClassTree) {
            lookAtField(node);
        }
        return super.visitVariable(node, p);
    }

    private void lookAtField(VariableTree node) {
        Set<Modifier> flags = node.getModifiers().getFlags();
        if (flags.contains(Modifier.STATIC)) {
            String type = node.getType().toString();
            boolean constant = constants.get(node.getName().toString()) != null;
            allow(constant && Set.of("int", "long").contains(type), 5, node.getName() + " is static and no constant", node);
            allow(flags.contains(Modifier.PUBLIC) || flags.contains(Modifier.PRIVATE), 1, node.getName() + " is visible", node);
        } else {
            fields++;
            allow(flags.contains(Modifier.PRIVATE), 1, node.getName() + " is visible", node);
        }
    }

    @Override
    public Void visitPrimitiveType(PrimitiveTypeTree node, Void p) {
        TypeKind kind = node.getPrimitiveTypeKind();
        allow(kind != TypeKind.FLOAT && kind != TypeKind.DOUBLE, 2, "float or double", node);
        return super.visitPrimitiveType(node, p);
    }

    @Override
    public Void visitArrayType(ArrayTypeTree node, Void p) {
        allow(node.getType() instanceof PrimitiveTypeTree, 2, "an array of something else than numbers", node);
        return super.visitArrayType(node, p);
    }

    @Override
    public Void visitLiteral(LiteralTree node, Void p) {
        Set<Tree.Kind> known = EnumSet.of(
                Tree.Kind.INT_LITERAL, Tree.Kind.LONG_LITERAL, Tree.Kind.CHAR_LITERAL, Tree.Kind.BOOLEAN_LITERAL);
        boolean isNull = node.getKind() == Tree.Kind.NULL_LITERAL;
        allow(!isNull, 4, "null", node);
        allow(isNull || known.contains(node.getKind()), 2, "a literal that is no whole number", node);
        return null;
    }

    @Override
    public Void visitMemberSelect(MemberSelectTree node, Void p) {
        boolean length = node.getIdentifier().contentEquals("length") && arrays.contains(node.getExpression().toString());
        boolean own = node.getExpression().toString().equals("this");
        allow(own || length, 3, "a member of another class, " + node, node);
        return own ? null : super.visitMemberSelect(node, p);
    }

    @Override
    public Void visitIdentifier(IdentifierTree node, Void p) {
        String name = node.getName().toString();
        boolean called = parent() instanceof MethodInvocationTree call && call.getMethodSelect() == node;
        allow(called || variables.contains(name), 3, "a name from elsewhere, " + name, node);
        if (arrays.contains(name) && !called) {
            allow(isArraysUse(node), 4, "the array " + name + " is used as a value", node);
        }
        return null;
    }

    private boolean isArraysUse(IdentifierTree node) {
        if (parent() instanceof ArrayAccessTree access) {
            return access.getExpression() == node;
        }
        boolean handedOn = parent() instanceof MethodInvocationTree || parent() instanceof VariableTree;
        return handedOn || parent() instanceof MemberSelectTree || isMadeInConstructor();
    }

    @Override
    public Void visitNewArray(NewArrayTree node, Void p) {
        boolean plain = node.getInitializers() == null && node.getDimensions().size() == 1;
        Long length = plain ? valueOf(node.getDimensions().get(0)) : null;
        allow(length != null && length >= 1, 4, "an array whose length is no constant of 1 or more", node);
        boolean fieldsInitialiser = parent() instanceof VariableTree && parent(2) instanceof ClassTree;
        allow(fieldsInitialiser || isMadeInConstructor(), 4, "an array made in a method", node);
        return super.visitNewArray(node, p);
    }

    /** Whether this stands in an assignment of a new array that is a statement of the constructor itself. */
    private boolean isMadeInConstructor() {
        boolean made = parent() instanceof AssignmentTree assigned && assigned.getExpression() instanceof NewArrayTree;
        return made && method.equals(CONSTRUCTOR) && parent(4) instanceof MethodTree;
    }

    @Override
    public Void visitBlock(BlockTree node, Void p) {
        allow(!(parent() instanceof ClassTree), 5, "an initialiser", node);
        return super.visitBlock(node, p);
    }

    @Override
    public Void visitTypeCast(TypeCastTree node, Void p) {
        allow(node.getType() instanceof PrimitiveTypeTree, 6, "a cast of a reference", node);
        return super.visitTypeCast(node, p);
    }

    @Override
    public Void visitForLoop(ForLoopTree node, Void p) {
        boolean ends = node.getInitializer().size() == 1 && node.getInitializer().get(0) instanceof VariableTree counter
                && countsUp(node, counter.getName().toString());
        allow(ends, 8, "a for that doesn't count up to a constant", node);
        return super.visitForLoop(node, p);
    }

    private boolean countsUp(ForLoopTree loop, String counter) {
        boolean steps = loop.getUpdate().size() == 1 && loop.getUpdate().get(0).getExpression() instanceof UnaryTree step
                && UP.contains(step.getKind()) && step.getExpression().toString().equals(counter);
        return steps && staysBelowConstant(loop.getCondition(), counter) && !isChanged(loop.getStatement(), counter);
    }

    /** Whether the condition is, or holds with && at its outside, the counter below a constant. */
    private boolean staysBelowConstant(Tree condition, String counter) {
        if (condition instanceof ParenthesizedTree inner) {
            return staysBelowConstant(inner.getExpression(), counter);
        }
        if (!(condition instanceof BinaryTree both)) {
            return false;
        }
        if (both.getKind() == Tree.Kind.CONDITIONAL_AND) {
            return staysBelowConstant(both.getLeftOperand(), counter) || staysBelowConstant(both.getRightOperand(), counter);
        }
        boolean below = both.getKind() == Tree.Kind.LESS_THAN || both.getKind() == Tree.Kind.LESS_THAN_EQUAL;
        return below && both.getLeftOperand().toString().equals(counter) && valueOf(both.getRightOperand()) != null;
    }

    private static boolean isChanged(Tree body, String name) {
        Set<String> changed = new HashSet<>();
        new TreeScanner<Void, Void>() {
            @Override
            public Void visitAssignment(AssignmentTree node, Void p) {
                changed.add(node.getVariable().toString());
                return super.visitAssignment(node, p);
            }

            @Override
            public Void visitCompoundAssignment(CompoundAssignmentTree node, Void p) {
                changed.add(node.getVariable().toString());
                return super.visitCompoundAssignment(node, p);
            }

            @Override
            public Void visitUnary(UnaryTree node, Void p) {
                if (UP.contains(node.getKind()) || DOWN.contains(node.getKind())) {
                    changed.add(node.getExpression().toString());
                }
                return super.visitUnary(node, p);
            }
        }.scan(body, null);
        return changed.contains(name);
    }

    @Override
    public Void visitMethodInvocation(MethodInvocationTree node, Void p) {
        String called = node.getMethodSelect().toString().replaceFirst("^this\\.", "");
        allow(calls.containsKey(called), 3, "a method from elsewhere, " + called, node);
        calls.computeIfAbsent(method, key -> new TreeSet<>()).add(called);
        TreePath around = getCurrentPath().getParentPath();
        while (!(around.getLeaf() instanceof StatementTree) && !(around.getLeaf() instanceof MethodInvocationTree)) {
            around = around.getParentPath();
        }
        allow(around.getLeaf() instanceof StatementTree, 10, "a call inside the arguments of a call", node);
        return super.visitMethodInvocation(node, p);
    }

    private void lookAtCalls() {
        Set<String> reached = new TreeSet<>(calls.keySet());
        for (int depth = 1; !reached.isEmpty() && depth <= calls.size(); depth++) {
            allow(depth <= DEEPEST_CALLS, 10, "calls " + depth + " deep", unit);
            Set<String> next = new TreeSet<>();
            for (String name : reached) {
                next.addAll(calls.getOrDefault(name, Set.of()));
            }
            reached = next;
        }
        // A chain longer than there are methods comes to one of them twice.
        allow(reached.isEmpty(), 8, "recursion through " + reached, unit);
    }
}
