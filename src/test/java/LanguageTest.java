import com.sun.source.tree.ArrayTypeTree;
import com.sun.source.tree.AssignmentTree;
import com.sun.source.tree.BinaryTree;
import com.sun.source.tree.BlockTree;
import com.sun.source.tree.ClassTree;
import com.sun.source.tree.CompilationUnitTree;
import com.sun.source.tree.CompoundAssignmentTree;
import com.sun.source.tree.ExpressionStatementTree;
import com.sun.source.tree.ExpressionTree;
import com.sun.source.tree.ForLoopTree;
import com.sun.source.tree.IdentifierTree;
import com.sun.source.tree.MethodInvocationTree;
import com.sun.source.tree.MethodTree;
import com.sun.source.tree.NewArrayTree;
import com.sun.source.tree.StatementTree;
import com.sun.source.tree.Tree;
import com.sun.source.tree.TypeCastTree;
import com.sun.source.tree.UnaryTree;
import com.sun.source.tree.VariableTree;
import com.sun.source.util.JavacTask;
import com.sun.source.util.SourcePositions;
import com.sun.source.util.TreePathScanner;
import com.sun.source.util.TreeScanner;
import com.sun.source.util.Trees;
import java.io.File;
import java.io.IOException;
import java.lang.reflect.InvocationTargetException;
import java.lang.reflect.Method;
import java.util.ArrayList;
import java.util.Arrays;
import java.util.Comparator;
import java.util.EnumMap;
import java.util.EnumSet;
import java.util.List;
import java.util.Map;
import java.util.Set;
import java.util.TreeMap;
import java.util.TreeSet;
import javax.lang.model.element.Element;
import javax.lang.model.element.ElementKind;
import javax.lang.model.element.Modifier;
import javax.lang.model.element.VariableElement;
import javax.lang.model.type.ArrayType;
import javax.lang.model.type.TypeKind;
import javax.lang.model.type.TypeMirror;
import javax.tools.JavaCompiler;
import javax.tools.StandardJavaFileManager;
import javax.tools.ToolProvider;

/**
 * The rules of LANGUAGE.md, looked up in the source as the compiler reads it. Where a rule leaves more than the
 * class needs (while loops, local names of arrays), the test leaves only what the class needs. Rule 7 can't be
 * read off the source: for that, one object is called very often with all sorts of arguments.
 */
public final class LanguageTest {
    private static final String SOURCE = "src/main/java/LiveRanges.java";
    private static final int MOST_PARAMETERS = 7;
    private static final int MOST_LINES = 60;
    private static final int MOST_CALLS_DEEP = 6;
    private static final int MOST_FIELDS = 40;

    /** The rule that rules a part of the language out. */
    private static final Map<Tree.Kind, Integer> RULED_OUT = new EnumMap<>(Tree.Kind.class);

    private static void ruleOut(int rule, Tree.Kind... kinds) {
        for (Tree.Kind kind : kinds) {
            RULED_OUT.put(kind, rule);
        }
    }

    static {
        ruleOut(1, Tree.Kind.PACKAGE, Tree.Kind.INTERFACE, Tree.Kind.ENUM, Tree.Kind.RECORD, Tree.Kind.ANNOTATION_TYPE);
        ruleOut(2, Tree.Kind.STRING_LITERAL, Tree.Kind.FLOAT_LITERAL, Tree.Kind.DOUBLE_LITERAL);
        ruleOut(3, Tree.Kind.IMPORT, Tree.Kind.MEMBER_SELECT, Tree.Kind.ANNOTATION, Tree.Kind.PARAMETERIZED_TYPE);
        ruleOut(4, Tree.Kind.NEW_CLASS, Tree.Kind.NULL_LITERAL);
        ruleOut(6, Tree.Kind.THROW, Tree.Kind.TRY, Tree.Kind.SYNCHRONIZED, Tree.Kind.ASSERT,
            Tree.Kind.INSTANCE_OF, Tree.Kind.LAMBDA_EXPRESSION, Tree.Kind.MEMBER_REFERENCE);
        ruleOut(8, Tree.Kind.WHILE_LOOP, Tree.Kind.DO_WHILE_LOOP, Tree.Kind.ENHANCED_FOR_LOOP);
    }

    private static final Set<TypeKind> NUMBERS = EnumSet.of(
        TypeKind.INT, TypeKind.LONG, TypeKind.SHORT, TypeKind.BYTE, TypeKind.CHAR, TypeKind.BOOLEAN);

    private static int wrong = 0;

    private static void must(boolean holds, int rule, String what) {
        if (!holds) {
            wrong++;
            System.out.println("rule " + rule + ": not so: " + what);
        }
    }

    private static final class Reader extends TreePathScanner<Void, Void> {
        private final Trees trees;
        private final CompilationUnitTree unit;
        private final Map<String, Set<String>> calls = new TreeMap<>();
        private final Set<String> openMethods = new TreeSet<>();
        private final Set<String> privateMethods = new TreeSet<>();
        private String method = "";
        private int classes = 0;
        private int fields = 0;

        Reader(Trees trees, CompilationUnitTree unit) {
            this.trees = trees;
            this.unit = unit;
        }

        private long lineOf(long position) {
            return unit.getLineMap().getLineNumber(position);
        }

        private String at(Tree tree) {
            return "line " + lineOf(trees.getSourcePositions().getStartPosition(unit, tree)) + ", " + tree;
        }

        private TypeMirror typeOf(Tree tree) {
            return trees.getTypeMirror(trees.getPath(unit, tree));
        }

        @Override
        public Void scan(Tree tree, Void none) {
            if (tree != null && RULED_OUT.containsKey(tree.getKind())) {
                must(false, RULED_OUT.get(tree.getKind()), "no " + tree.getKind() + ": " + at(tree));
            }
            return super.scan(tree, none);
        }

        @Override
        public Void visitClass(ClassTree tree, Void none) {
            classes++;
            must(classes == 1, 1, "one class: " + tree.getSimpleName());
            must(tree.getExtendsClause() == null && tree.getImplementsClause().isEmpty(), 2, "no other class");
            return super.visitClass(tree, none);
        }

        @Override
        public Void visitMethod(MethodTree tree, Void none) {
            method = tree.getName().toString();
            calls.computeIfAbsent(method, name -> new TreeSet<>());
            boolean isPrivate = tree.getModifiers().getFlags().contains(Modifier.PRIVATE);
            (isPrivate ? privateMethods : openMethods).add(method);
            must(tree.getParameters().size() <= MOST_PARAMETERS, 10, method + " takes few parameters");
            must(tree.getThrows().isEmpty(), 6, method + " throws nothing");
            if (tree.getReturnType() != null) {
                TypeKind answer = typeOf(tree.getReturnType()).getKind();
                must(NUMBERS.contains(answer) || answer == TypeKind.VOID, 4, method + " answers a number");
            }
            SourcePositions positions = trees.getSourcePositions();
            long first = lineOf(positions.getStartPosition(unit, tree));
            long last = lineOf(positions.getEndPosition(unit, tree));
            must(last - first < MOST_LINES, 10, method + " is short");
            super.visitMethod(tree, none);
            method = "";
            return null;
        }

        private boolean isNumberOrRow(TypeMirror type) {
            if (type.getKind() == TypeKind.ARRAY) {
                return NUMBERS.contains(((ArrayType) type).getComponentType().getKind());
            }
            return NUMBERS.contains(type.getKind());
        }

        @Override
        public Void visitVariable(VariableTree tree, Void none) {
            VariableElement named = (VariableElement) trees.getElement(getCurrentPath());
            TypeMirror type = named.asType();
            must(isNumberOrRow(type), 2, "a number, or a row of them: " + at(tree));
            if (named.getKind() != ElementKind.FIELD) {
                must(type.getKind() != TypeKind.ARRAY || named.getKind() == ElementKind.PARAMETER, 4,
                    "no local name of an array: " + at(tree));
                return super.visitVariable(tree, none);
            }
            Set<Modifier> flags = named.getModifiers();
            if (flags.contains(Modifier.STATIC)) {
                boolean isWhole = type.getKind() == TypeKind.INT || type.getKind() == TypeKind.LONG;
                must(isWhole && named.getConstantValue() != null, 5, "a static field is a constant: " + at(tree));
            } else {
                fields++;
            }
            if (type.getKind() == TypeKind.ARRAY) {
                must(flags.contains(Modifier.FINAL) && tree.getInitializer() != null, 4,
                    "an array is made with its field, and stays: " + at(tree));
            }
            return super.visitVariable(tree, none);
        }

        @Override
        public Void visitNewArray(NewArrayTree tree, Void none) {
            Element holder = trees.getElement(getCurrentPath().getParentPath());
            must(method.isEmpty() && holder != null && holder.getKind() == ElementKind.FIELD, 4,
                "an array is made in a field's initialiser: " + at(tree));
            must(tree.getInitializers() == null && tree.getDimensions().size() == 1, 4, "one length: " + at(tree));
            for (ExpressionTree length : tree.getDimensions()) {
                Element constant = trees.getElement(trees.getPath(unit, length));
                Object value = constant instanceof VariableElement
                    ? ((VariableElement) constant).getConstantValue() : null;
                boolean isLiteral = length.getKind() == Tree.Kind.INT_LITERAL && !length.toString().equals("0");
                must(isLiteral || value instanceof Integer && (Integer) value >= 1, 4, "a length: " + at(tree));
            }
            return super.visitNewArray(tree, none);
        }

        @Override
        public Void visitArrayType(ArrayTypeTree tree, Void none) {
            must(tree.getType().getKind() == Tree.Kind.PRIMITIVE_TYPE, 2, "one dimension: " + at(tree));
            return super.visitArrayType(tree, none);
        }

        @Override
        public Void visitIdentifier(IdentifierTree tree, Void none) {
            Element named = trees.getElement(getCurrentPath());
            // The compiler itself adds super() to the constructor.
            if (named != null && named.getKind() == ElementKind.CONSTRUCTOR) {
                return null;
            }
            boolean isOwn = named != null && (named.getKind() == ElementKind.PARAMETER
                || named.getKind() == ElementKind.LOCAL_VARIABLE
                || named.getEnclosingElement().toString().equals("LiveRanges"));
            must(isOwn, 3, "a name of the class itself: " + at(tree));
            return super.visitIdentifier(tree, none);
        }

        @Override
        public Void visitBinary(BinaryTree tree, Void none) {
            boolean areNumbers = NUMBERS.contains(typeOf(tree.getLeftOperand()).getKind())
                && NUMBERS.contains(typeOf(tree.getRightOperand()).getKind());
            must(areNumbers, 4, "numbers alone are compared: " + at(tree));
            return super.visitBinary(tree, none);
        }

        @Override
        public Void visitTypeCast(TypeCastTree tree, Void none) {
            must(NUMBERS.contains(typeOf(tree.getType()).getKind()), 6, "no cast but of numbers: " + at(tree));
            return super.visitTypeCast(tree, none);
        }

        @Override
        public Void visitBlock(BlockTree tree, Void none) {
            must(!method.isEmpty(), 5, "no initialiser: " + at(tree));
            return super.visitBlock(tree, none);
        }

        @Override
        public Void visitMethodInvocation(MethodInvocationTree tree, Void none) {
            String called = tree.getMethodSelect().toString();
            must(!method.isEmpty(), 4, "no call in a field's initialiser: " + at(tree));
            if (!called.equals("super")) {
                calls.computeIfAbsent(method, name -> new TreeSet<>()).add(called);
            }
            for (ExpressionTree argument : tree.getArguments()) {
                must(!hasCall(argument), 10, "no call inside the arguments of another: " + at(tree));
            }
            return super.visitMethodInvocation(tree, none);
        }

        @Override
        public Void visitForLoop(ForLoopTree tree, Void none) {
            must(endIsSeen(tree), 8, "a counter against a bound: " + at(tree));
            return super.visitForLoop(tree, none);
        }
    }

    private static boolean hasCall(Tree tree) {
        boolean[] found = {false};
        new TreeScanner<Void, Void>() {
            @Override
            public Void visitMethodInvocation(MethodInvocationTree call, Void none) {
                found[0] = true;
                return null;
            }
        }.scan(tree, null);
        return found[0];
    }

    /** The loop has one counter, goes on only while it is on one side of a bound, and moves it there by 1. */
    private static boolean endIsSeen(ForLoopTree loop) {
        if (loop.getInitializer().size() != 1 || loop.getUpdate().size() != 1) {
            return false;
        }
        StatementTree first = loop.getInitializer().get(0);
        if (!(first instanceof VariableTree)) {
            return false;
        }
        String counter = ((VariableTree) first).getName().toString();
        ExpressionStatementTree update = loop.getUpdate().get(0);
        String step = update.getExpression().toString();
        boolean isUp = step.equals(counter + "++");
        boolean isDown = step.equals(counter + "--");
        return (isUp || isDown) && isBounded(loop.getCondition(), counter, isUp)
            && !isAssigned(loop.getStatement(), counter);
    }

    private static boolean isBounded(Tree condition, String counter, boolean isUp) {
        if (!(condition instanceof BinaryTree)) {
            return false;
        }
        BinaryTree test = (BinaryTree) condition;
        if (test.getKind() == Tree.Kind.CONDITIONAL_AND) {
            return isBounded(test.getLeftOperand(), counter, isUp) || isBounded(test.getRightOperand(), counter, isUp);
        }
        Tree.Kind due = isUp ? Tree.Kind.LESS_THAN : Tree.Kind.GREATER_THAN_EQUAL;
        return test.getKind() == due && test.getLeftOperand().toString().equals(counter);
    }

    private static boolean isAssigned(Tree tree, String name) {
        boolean[] found = {false};
        new TreeScanner<Void, Void>() {
            private void look(Tree target) {
                found[0] |= target.toString().equals(name);
            }

            @Override
            public Void visitAssignment(AssignmentTree change, Void none) {
                look(change.getVariable());
                return super.visitAssignment(change, none);
            }

            @Override
            public Void visitCompoundAssignment(CompoundAssignmentTree change, Void none) {
                look(change.getVariable());
                return super.visitCompoundAssignment(change, none);
            }

            @Override
            public Void visitUnary(UnaryTree change, Void none) {
                look(change.getExpression());
                return super.visitUnary(change, none);
            }
        }.scan(tree, null);
        return found[0];
    }

    /** How many calls deep a method goes, itself counted; more than all methods if it comes back to itself. */
    private static int deepness(Map<String, Set<String>> calls, String method, int left) {
        int most = 0;
        if (left > 0) {
            for (String called : calls.getOrDefault(method, Set.of())) {
                most = Math.max(most, deepness(calls, called, left - 1));
            }
        }
        return most + 1;
    }

    private static void readSource() throws IOException {
        File[] files = new File(SOURCE).getParentFile().listFiles();
        must(files != null && files.length == 1, 1, "one file: " + Arrays.toString(files));
        JavaCompiler compiler = ToolProvider.getSystemJavaCompiler();
        try (StandardJavaFileManager manager = compiler.getStandardFileManager(null, null, null)) {
            List<String> options = List.of("--release", "17", "-proc:none");
            JavacTask task = (JavacTask) compiler.getTask(
                null, manager, null, options, null, manager.getJavaFileObjects(SOURCE));
            CompilationUnitTree unit = task.parse().iterator().next();
            task.analyze();
            Reader reader = new Reader(Trees.instance(task), unit);
            reader.scan(unit, null);
            must(reader.fields <= MOST_FIELDS, 10, "few fields: " + reader.fields);
            for (String name : reader.privateMethods) {
                must(!reader.openMethods.contains(name), 1, "a private method has a name of its own: " + name);
            }
            for (String name : reader.calls.keySet()) {
                int deep = deepness(reader.calls, name, MOST_CALLS_DEEP);
                must(deep <= MOST_CALLS_DEEP, 8, "no recursion, and calls at most six deep: " + name);
            }
        }
    }

    // ---- Rule 7

    private static final int CALLS = 300000;

    private static final int[] ARGUMENTS = {
        0, 1, 2, 3, 4, 5, 6, 7, 8, 9, 10, 11, 12, 13, 14, 15, 16, 17, 18, 19, 20, 21, 22, 23, 24, 25, -1, -2,
        0, 0, 1, 1, 2, 2, 3, 3, 335, 336, 575, 576, 9999, 10000, 1 << 26, 1 << 29, 1 << 30,
        Integer.MAX_VALUE - 1, Integer.MAX_VALUE, Integer.MIN_VALUE, Integer.MIN_VALUE + 1,
    };

    private static void callVeryOften() throws IllegalAccessException {
        List<Method> methods = new ArrayList<>();
        for (Method method : LiveRanges.class.getDeclaredMethods()) {
            if (java.lang.reflect.Modifier.isPublic(method.getModifiers())) {
                methods.add(method);
            }
        }
        // Reflection gives them in no fixed order, and each run is to make the same calls.
        methods.sort(Comparator.comparing(Method::getName));
        LiveRanges x = new LiveRanges();
        long seed = 20261116;
        for (int call = 0; call < CALLS; call++) {
            seed = seed * 6364136223846793005L + 1442695040888963407L;
            Method method = methods.get((int) ((seed >>> 33) % methods.size()));
            Object[] values = new Object[method.getParameterCount()];
            for (int i = 0; i < values.length; i++) {
                seed = seed * 6364136223846793005L + 1442695040888963407L;
                values[i] = ARGUMENTS[(int) ((seed >>> 33) % ARGUMENTS.length)];
            }
            try {
                method.invoke(x, values);
            } catch (InvocationTargetException e) {
                must(false, 7, method.getName() + Arrays.toString(values) + " threw " + e.getCause());
            }
        }
    }

    public static void main(String[] args) throws IOException, IllegalAccessException {
        readSource();
        callVeryOften();
        System.out.println(wrong == 0 ? "the rules are kept" : wrong + " things are not as due");
        if (wrong != 0) {
            System.exit(1);
        }
    }
}
