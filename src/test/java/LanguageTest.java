import com.sun.source.tree.*;
import com.sun.source.util.JavacTask;
import com.sun.source.util.SourcePositions;
import com.sun.source.util.TreePath;
import com.sun.source.util.TreePathScanner;
import com.sun.source.util.TreeScanner;
import com.sun.source.util.Trees;
import java.io.IOException;
import java.nio.file.Path;
import java.util.ArrayList;
import java.util.EnumSet;
import java.util.List;
import java.util.Map;
import java.util.Set;
import java.util.TreeMap;
import java.util.TreeSet;
import javax.lang.model.element.Element;
import javax.lang.model.element.ElementKind;
import javax.lang.model.element.Modifier;
import javax.lang.model.element.VariableElement;
import javax.lang.model.type.ArrayType;
import javax.lang.model.type.TypeKind;
import javax.lang.model.type.TypeMirror;
import javax.tools.JavaCompiler;
import javax.tools.StandardJavaFileManager;
import javax.tools.ToolProvider;

/**
 * The rules of LANGUAGE.md, as far as the tree shows them that the compiler makes of the class. Rule 7 (nothing
 * throws, every call ends) is not to be seen in the tree; the other tests call the class with all kinds of arguments.
 */
public final class LanguageTest extends TreePathScanner<Void, Void> {
    private static final Set<TypeKind> NUMBERS = EnumSet.of(TypeKind.INT, TypeKind.LONG, TypeKind.SHORT,
        TypeKind.BYTE, TypeKind.CHAR, TypeKind.BOOLEAN);
    private static final Set<Tree.Kind> FORBIDDEN = EnumSet.of(Tree.Kind.THROW, Tree.Kind.TRY, Tree.Kind.CATCH,
        Tree.Kind.SYNCHRONIZED, Tree.Kind.ASSERT, Tree.Kind.INSTANCE_OF, Tree.Kind.LAMBDA_EXPRESSION,
        Tree.Kind.MEMBER_REFERENCE, Tree.Kind.NEW_CLASS, Tree.Kind.NULL_LITERAL, Tree.Kind.STRING_LITERAL,
        Tree.Kind.FLOAT_LITERAL, Tree.Kind.DOUBLE_LITERAL, Tree.Kind.IMPORT, Tree.Kind.PACKAGE, Tree.Kind.ANNOTATION,
        Tree.Kind.INTERFACE, Tree.Kind.ENUM, Tree.Kind.RECORD);
    private static final Set<Tree.Kind> LOOPS = EnumSet.of(Tree.Kind.FOR_LOOP, Tree.Kind.WHILE_LOOP,
        Tree.Kind.DO_WHILE_LOOP, Tree.Kind.ENHANCED_FOR_LOOP);

    private final CompilationUnitTree unit;
    private final Trees trees;
    private final Map<String, Set<String>> calls = new TreeMap<>();
    private int classes = 0;
    private int fields = 0;

    private LanguageTest(CompilationUnitTree unit, Trees trees) {
        this.unit = unit;
        this.trees = trees;
    }

    public static void main(String[] args) throws IOException {
        JavaCompiler compiler = ToolProvider.getSystemJavaCompiler();
        try (StandardJavaFileManager files = compiler.getStandardFileManager(null, null, null)) {
            JavacTask task = (JavacTask) compiler.getTask(null, files, null, List.of("--release", "17"), null,
                files.getJavaFileObjects(Path.of("src/main/java/GossipOverlay.java")));
            CompilationUnitTree unit = task.parse().iterator().next();
            task.analyze();
            LanguageTest test = new LanguageTest(unit, Trees.instance(task));
            test.scan(unit, null);
            test.whole();
        }
        Kit.end();
    }

    private void rule(int number, Tree tree, String what, boolean holds) {
        Kit.due("rule " + number + ", line " + line(tree) + ": " + what, holds, true);
    }

    private long line(Tree tree) {
        return unit.getLineMap().getLineNumber(trees.getSourcePositions().getStartPosition(unit, tree));
    }

    private void whole() {
        Kit.due("rule 1: the number of classes", classes, 1);
        Kit.due("rule 10: at most forty fields, of " + fields, fields <= 40, true);
        Kit.due("methods were found", calls.size() > 16, true);
        for (String name : calls.keySet()) {
            int depth = depth(name, new ArrayList<>());
            Kit.due("rule 10: " + name + " goes " + depth + " deep, at most six", depth <= 6, true);
        }
    }

    private int depth(String name, List<String> above) {
        Kit.due("rule 8: " + name + " calls itself, by " + above, above.contains(name), false);
        if (above.contains(name)) {
            return 0;
        }
        List<String> path = new ArrayList<>(above);
        path.add(name);
        int deepest = 0;
        for (String called : calls.getOrDefault(name, Set.of())) {
            deepest = Math.max(deepest, depth(called, path));
        }
        return deepest + 1;
    }

    // ---- The tree ----

    @Override
    public Void scan(Tree tree, Void none) {
        if (tree != null) {
            Kit.due("line " + line(tree) + ": " + tree.getKind() + " stands outside the rules",
                FORBIDDEN.contains(tree.getKind()), false);
            if (LOOPS.contains(tree.getKind())) {
                rule(8, tree, "the loop counts up to a bound", countsUp(tree));
            }
        }
        return super.scan(tree, none);
    }

    @Override
    public Void visitClass(ClassTree tree, Void none) {
        classes++;
        rule(1, tree, "the class is the document's", tree.getSimpleName().contentEquals("GossipOverlay")
            && tree.getModifiers().getFlags().equals(EnumSet.of(Modifier.PUBLIC, Modifier.FINAL))
            && tree.getExtendsClause() == null && tree.getImplementsClause().isEmpty());
        return super.visitClass(tree, none);
    }

    @Override
    public Void visitBlock(BlockTree tree, Void none) {
        rule(5, tree, "no initialiser block", getCurrentPath().getParentPath().getLeaf().getKind() != Tree.Kind.CLASS);
        return super.visitBlock(tree, none);
    }

    @Override
    public Void visitVariable(VariableTree tree, Void none) {
        TypeMirror type = trees.getTypeMirror(getCurrentPath());
        rule(2, tree, tree.getName() + " is a number, a boolean or an array of them", isNumber(type) || isArray(type));
        Set<Modifier> flags = tree.getModifiers().getFlags();
        Element element = trees.getElement(getCurrentPath());
        if (element.getKind() == ElementKind.FIELD && flags.contains(Modifier.STATIC)) {
            boolean whole = type.getKind() == TypeKind.INT || type.getKind() == TypeKind.LONG;
            rule(5, tree, tree.getName() + " is a constant of int or long",
                whole && ((VariableElement) element).getConstantValue() != null);
        } else if (element.getKind() == ElementKind.FIELD) {
            fields++;
            rule(1, tree, tree.getName() + " is private", flags.contains(Modifier.PRIVATE));
            rule(4, tree, tree.getName() + " is made where it is declared, for good", !isArray(type)
                || flags.contains(Modifier.FINAL) && tree.getInitializer() != null
                && tree.getInitializer().getKind() == Tree.Kind.NEW_ARRAY);
        }
        return super.visitVariable(tree, none);
    }

    @Override
    public Void visitMethod(MethodTree tree, Void none) {
        String name = tree.getName().toString();
        Set<Modifier> flags = tree.getModifiers().getFlags();
        rule(1, tree, name + " is public or private",
            flags.contains(Modifier.PUBLIC) || flags.contains(Modifier.PRIVATE));
        rule(1, tree, name + " is the only method of its name", calls.put(name, new TreeSet<>()) == null);
        rule(10, tree, name + " takes at most seven parameters", tree.getParameters().size() <= 7);
        rule(6, tree, name + " throws nothing", tree.getThrows().isEmpty());
        if (tree.getReturnType() != null) {
            TypeKind answer = trees.getTypeMirror(new TreePath(getCurrentPath(), tree.getReturnType())).getKind();
            rule(4, tree, name + " answers a number, a boolean or nothing",
                answer == TypeKind.VOID || NUMBERS.contains(answer));
        }
        SourcePositions places = trees.getSourcePositions();
        long lines = unit.getLineMap().getLineNumber(places.getEndPosition(unit, tree)) - line(tree) + 1;
        rule(10, tree, name + " is at most sixty lines, of " + lines, lines <= 60);
        return super.visitMethod(tree, none);
    }

    @Override
    public Void visitMethodInvocation(MethodInvocationTree tree, Void none) {
        String called = tree.getMethodSelect().toString();
        if (!called.equals("super")) {
            Element element = trees.getElement(new TreePath(getCurrentPath(), tree.getMethodSelect()));
            rule(3, tree, called + " is a method of the class",
                element.getEnclosingElement().getSimpleName().contentEquals("GossipOverlay"));
            calls.computeIfAbsent(methodAround(), m -> new TreeSet<>()).add(called);
        }
        Tree below = tree;
        for (Tree around : getCurrentPath()) {
            boolean argument = around instanceof MethodInvocationTree outer && outer.getArguments().contains(below);
            rule(10, tree, called + " stands outside the arguments of other calls", !argument);
            below = around;
        }
        return super.visitMethodInvocation(tree, none);
    }

    @Override
    public Void visitNewArray(NewArrayTree tree, Void none) {
        Element field = trees.getElement(getCurrentPath().getParentPath());
        rule(4, tree, "an array is made in a field's initialiser",
            field != null && field.getKind() == ElementKind.FIELD);
        rule(4, tree, "an array has one dimension and no list of values",
            tree.getDimensions().size() == 1 && tree.getInitializers() == null);
        for (ExpressionTree length : tree.getDimensions()) {
            rule(4, tree, "the length " + length + " is a literal or a constant, 1 or more", isLength(length));
        }
        return super.visitNewArray(tree, none);
    }

    private boolean isLength(ExpressionTree length) {
        if (length instanceof LiteralTree literal) {
            return (Integer) literal.getValue() >= 1;
        }
        Element constant = trees.getElement(new TreePath(getCurrentPath(), length));
        return constant instanceof VariableElement variable && variable.getConstantValue() instanceof Integer value
            && value >= 1;
    }

    @Override
    public Void visitMemberSelect(MemberSelectTree tree, Void none) {
        Tree of = tree.getExpression();
        boolean length = tree.getIdentifier().contentEquals("length")
            && isArray(trees.getTypeMirror(new TreePath(getCurrentPath(), of)));
        rule(3, tree, tree + " is a member of this or the length of an array", length || of.toString().equals("this"));
        return super.visitMemberSelect(tree, none);
    }

    @Override
    public Void visitBinary(BinaryTree tree, Void none) {
        rule(4, tree, tree + " compares no arrays", isNumber(typeOf(tree.getLeftOperand())));
        return super.visitBinary(tree, none);
    }

    @Override
    public Void visitTypeCast(TypeCastTree tree, Void none) {
        rule(6, tree, tree + " casts to a number", isNumber(typeOf(tree.getType())));
        return super.visitTypeCast(tree, none);
    }

    @Override
    public Void visitAssignment(AssignmentTree tree, Void none) {
        rule(4, tree, tree + " assigns no array", isNumber(typeOf(tree.getVariable())));
        return super.visitAssignment(tree, none);
    }

    // ---- What the tree says ----

    private TypeMirror typeOf(Tree below) {
        return trees.getTypeMirror(new TreePath(getCurrentPath(), below));
    }

    private static boolean isNumber(TypeMirror type) {
        return NUMBERS.contains(type.getKind());
    }

    private static boolean isArray(TypeMirror type) {
        return type instanceof ArrayType array && isNumber(array.getComponentType());
    }

    private String methodAround() {
        for (Tree tree : getCurrentPath()) {
            if (tree instanceof MethodTree method) {
                return method.getName().toString();
            }
        }
        return "a field's initialiser";
    }

    /** A for loop whose counter goes up by one to a bound, both of which the loop's body leaves as they are. */
    private boolean countsUp(Tree tree) {
        if (!(tree instanceof ForLoopTree loop) || loop.getInitializer().size() != 1
            || !(loop.getInitializer().get(0) instanceof VariableTree counter) || loop.getUpdate().size() != 1
            || !(loop.getCondition() instanceof BinaryTree condition)) {
            return false;
        }
        String name = counter.getName().toString();
        boolean steps = loop.getUpdate().get(0).toString().equals(name + "++;");
        boolean bounded = condition.getKind() == Tree.Kind.LESS_THAN
            && condition.getLeftOperand().toString().equals(name);
        return steps && bounded && !isSet(name, loop.getStatement())
            && staysPut(condition.getRightOperand(), loop.getStatement());
    }

    /** A number, a final field, a local variable or an entry of an array, that the lines of the body do not change. */
    private boolean staysPut(ExpressionTree bound, StatementTree body) {
        if (bound instanceof LiteralTree) {
            return true;
        }
        if (bound instanceof IdentifierTree) {
            Element element = trees.getElement(new TreePath(getCurrentPath(), bound));
            return element.getModifiers().contains(Modifier.FINAL)
                || element.getKind() != ElementKind.FIELD && !isSet(bound.toString(), body);
        }
        // What a method does to the array cannot be seen from the loop's own lines.
        return bound instanceof ArrayAccessTree entry && !isSet(entry.getExpression().toString(), body)
            && entry.getIndex() instanceof IdentifierTree index && !isSet(index.toString(), body)
            && !hasCall(body);
    }

    private static boolean isSet(String name, StatementTree body) {
        String place = "\\b" + name + "(\\[[^\\]]*\\])?";
        return body.toString().matches("(?s).*" + place + " ?([-+*/%&|^]|<<|>>>?)?=[^=].*")
            || body.toString().matches("(?s).*(" + place + "(\\+\\+|--)|(\\+\\+|--)" + place + ").*");
    }

    private static boolean hasCall(StatementTree body) {
        boolean[] found = {false};
        new TreeScanner<Void, Void>() {
            @Override
            public Void visitMethodInvocation(MethodInvocationTree tree, Void none) {
                found[0] = true;
                return null;
            }
        }.scan(body, null);
        return found[0];
    }
}
