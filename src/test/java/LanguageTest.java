import com.sun.source.tree.ArrayAccessTree;
import com.sun.source.tree.ArrayTypeTree;
import com.sun.source.tree.AssignmentTree;
import com.sun.source.tree.BinaryTree;
import com.sun.source.tree.ClassTree;
import com.sun.source.tree.CompilationUnitTree;
import com.sun.source.tree.CompoundAssignmentTree;
import com.sun.source.tree.ExpressionTree;
import com.sun.source.tree.ForLoopTree;
import com.sun.source.tree.IdentifierTree;
import com.sun.source.tree.LiteralTree;
import com.sun.source.tree.MethodInvocationTree;
import com.sun.source.tree.MethodTree;
import com.sun.source.tree.NewArrayTree;
import com.sun.source.tree.PrimitiveTypeTree;
import com.sun.source.tree.Tree;
import com.sun.source.tree.TypeCastTree;
import com.sun.source.tree.UnaryTree;
import com.sun.source.tree.VariableTree;
import com.sun.source.util.JavacTask;
import com.sun.source.util.TreeScanner;
import java.lang.reflect.Constructor;
import java.lang.reflect.Field;
import java.lang.reflect.Method;
import java.lang.reflect.Modifier;
import java.nio.file.Path;
import java.util.Arrays;
import java.util.List;
import java.util.Map;
import java.util.Set;
import java.util.TreeMap;
import java.util.TreeSet;
import javax.tools.JavaCompiler;
import javax.tools.StandardJavaFileManager;
import javax.tools.ToolProvider;

/** The public face of the document, and the rules of LANGUAGE.md that can be seen in the source. */
public final class LanguageTest {
    private static final String SOURCE = "src/main/java/LinkedUnits.java";
    private static final String[] METHODS = {
        "boolean include(int,boolean)", "boolean poke(int,int)", "boolean token(int,int)", "int at(int)",
        "int culprit()", "int link()", "int parameters(int)", "int peek(int)", "int place()", "int result()",
        "int run(int,int,int,int)", "int size()", "int steps()", "int unit(int)"};
    private static final String[] CONSTANTS = {
        "ADDRESS=7", "BAD=-1", "DEPTH=9", "DUPLICATE=3", "LARGE=6", "LONG=8", "MISMATCH=5", "MISSING=4",
        "OK=0", "SYNTAX=1", "TWICE=2"};
    private static final Set<Tree.Kind> FORBIDDEN = Set.of(
        Tree.Kind.NEW_CLASS, Tree.Kind.THROW, Tree.Kind.TRY, Tree.Kind.SYNCHRONIZED, Tree.Kind.ASSERT,
        Tree.Kind.INSTANCE_OF, Tree.Kind.LAMBDA_EXPRESSION, Tree.Kind.MEMBER_REFERENCE, Tree.Kind.MEMBER_SELECT,
        Tree.Kind.NULL_LITERAL, Tree.Kind.STRING_LITERAL, Tree.Kind.FLOAT_LITERAL, Tree.Kind.DOUBLE_LITERAL,
        Tree.Kind.WHILE_LOOP, Tree.Kind.DO_WHILE_LOOP, Tree.Kind.ENHANCED_FOR_LOOP, Tree.Kind.IMPORT,
        Tree.Kind.INTERFACE, Tree.Kind.ENUM, Tree.Kind.RECORD, Tree.Kind.PARAMETERIZED_TYPE);

    private final Check check = new Check();
    private final Map<String, Set<String>> calls = new TreeMap<>();
    private final Set<String> arrayFields = new TreeSet<>();

    public static void main(String[] args) throws Exception {
        LanguageTest test = new LanguageTest();
        test.face();
        test.source();
        test.check.end("LanguageTest");
    }

    private void holds(String rule, boolean holds) {
        check.same(rule, holds, true);
    }

    private void face() throws Exception {
        Set<String> methods = new TreeSet<>();
        Set<String> constants = new TreeSet<>();
        Set<String> publicNames = new TreeSet<>();
        for (Method method : LinkedUnits.class.getDeclaredMethods()) {
            if (!Modifier.isPrivate(method.getModifiers())) {
                holds(method + " is public", method.getModifiers() == Modifier.PUBLIC);
                publicNames.add(method.getName());
                methods.add(signature(method));
            }
        }
        for (Method method : LinkedUnits.class.getDeclaredMethods()) {
            holds(method + " has a name of its own",
                !Modifier.isPrivate(method.getModifiers()) || !publicNames.contains(method.getName()));
        }
        int fields = 0;
        for (Field field : LinkedUnits.class.getDeclaredFields()) {
            int modifiers = field.getModifiers();
            boolean isConstant = Modifier.isStatic(modifiers) && Modifier.isFinal(modifiers)
                && (field.getType() == int.class || field.getType() == long.class);
            holds(field + " is a constant or not static", isConstant || !Modifier.isStatic(modifiers));
            fields += isConstant ? 0 : 1;
            if (field.getType().isArray()) {
                arrayFields.add(field.getName());
            }
            holds(field + ", an array, is never assigned to", !field.getType().isArray() || Modifier.isFinal(modifiers));
            if (!Modifier.isPrivate(modifiers)) {
                holds(field + " is public", Modifier.isPublic(modifiers) && isConstant);
                constants.add(field.getName() + "=" + field.getInt(null));
            }
        }
        Constructor<?>[] constructors = LinkedUnits.class.getDeclaredConstructors();
        holds("one public constructor", constructors.length == 1 && constructors[0].getModifiers() == Modifier.PUBLIC
            && constructors[0].getParameterCount() == 0);
        holds("methods " + methods, methods.equals(new TreeSet<>(Arrays.asList(METHODS))));
        holds("constants " + constants, constants.equals(new TreeSet<>(Arrays.asList(CONSTANTS))));
        holds("some forty fields, not " + fields, fields <= 40);
        holds("no class inside", LinkedUnits.class.getDeclaredClasses().length == 0);
        holds("public final", LinkedUnits.class.getModifiers() == (Modifier.PUBLIC | Modifier.FINAL));
    }

    private static String signature(Method method) {
        StringBuilder text = new StringBuilder(method.getReturnType() + " " + method.getName() + "(");
        for (Class<?> type : method.getParameterTypes()) {
            text.append(text.charAt(text.length() - 1) == '(' ? "" : ",").append(type);
        }
        return text.append(")").toString();
    }

    private void source() throws Exception {
        JavaCompiler compiler = ToolProvider.getSystemJavaCompiler();
        try (StandardJavaFileManager files = compiler.getStandardFileManager(null, null, null)) {
            JavacTask task = (JavacTask) compiler.getTask(null, files, null, null, null, files.getJavaFileObjects(Path.of(SOURCE)));
            CompilationUnitTree unit = task.parse().iterator().next();
            holds("no package", unit.getPackage() == null);
            holds("no import", unit.getImports().isEmpty());
            holds("one class", unit.getTypeDecls().size() == 1);
            ClassTree type = (ClassTree) unit.getTypeDecls().get(0);
            new Rules().scan(type, null);
            arrays(type);
            for (Tree member : type.getMembers()) {
                holds("a field or a method: " + member, member instanceof VariableTree || member instanceof MethodTree);
                if (member instanceof VariableTree) {
                    field((VariableTree) member);
                }
                if (member instanceof MethodTree) {
                    method((MethodTree) member);
                }
            }
        }
        for (String name : calls.keySet()) {
            int deep = depth(name, 0);
            holds("calls from " + name + " go at most six deep, not " + deep, deep <= 6);
        }
    }

    private final class Rules extends TreeScanner<Void, Void> {
        @Override
        public Void scan(Tree tree, Void nothing) {
            if (tree != null) {
                holds("no " + tree.getKind() + ": " + tree, !FORBIDDEN.contains(tree.getKind()));
            }
            return super.scan(tree, nothing);
        }

        @Override
        public Void visitVariable(VariableTree variable, Void nothing) {
            holds("the type of " + variable, isAllowed(variable.getType()));
            return super.visitVariable(variable, nothing);
        }

        @Override
        public Void visitForLoop(ForLoopTree loop, Void nothing) {
            boolean hasCounter = loop.getInitializer().size() == 1 && loop.getInitializer().get(0) instanceof VariableTree
                && loop.getUpdate().size() == 1 && loop.getCondition() != null;
            holds("a counter in " + loop, hasCounter);
            if (hasCounter) {
                String counter = ((VariableTree) loop.getInitializer().get(0)).getName().toString();
                String update = loop.getUpdate().get(0).toString();
                String condition = loop.getCondition().toString().replace("(", "");
                holds("the counter goes up or down in " + loop,
                    (update.equals(counter + "++;") && condition.startsWith(counter + " < "))
                    || (update.equals(counter + "--;") && condition.startsWith(counter + " >= ")));
                holds("only the loop itself moves its counter: " + loop, !changed(loop.getStatement()).contains(counter));
            }
            return super.visitForLoop(loop, nothing);
        }

        @Override
        public Void visitPrimitiveType(PrimitiveTypeTree type, Void nothing) {
            holds("a whole number or a boolean: " + type, isAllowed(type) || type.toString().equals("void"));
            return super.visitPrimitiveType(type, nothing);
        }

        @Override
        public Void visitTypeCast(TypeCastTree cast, Void nothing) {
            holds("a cast between numbers: " + cast, isAllowed(cast.getType()));
            return super.visitTypeCast(cast, nothing);
        }

        // An array that is only ever indexed is neither answered, compared nor given another name.
        @Override
        public Void visitArrayAccess(ArrayAccessTree access, Void nothing) {
            boolean isField = access.getExpression() instanceof IdentifierTree;
            holds("an array field in " + access, isField && arrayFields.contains(access.getExpression().toString()));
            return scan(access.getIndex(), nothing);
        }

        @Override
        public Void visitIdentifier(IdentifierTree identifier, Void nothing) {
            holds("an index behind " + identifier, !arrayFields.contains(identifier.toString()));
            return super.visitIdentifier(identifier, nothing);
        }

        @Override
        public Void visitMethodInvocation(MethodInvocationTree call, Void nothing) {
            holds("a method of the class: " + call, call.getMethodSelect() instanceof IdentifierTree);
            for (ExpressionTree argument : call.getArguments()) {
                Set<String> inside = new TreeSet<>();
                collectCalls(argument, inside);
                holds("no call in the arguments of " + call, inside.isEmpty());
            }
            return super.visitMethodInvocation(call, nothing);
        }
    }

    // The names that a statement assigns to or counts up or down.
    private static Set<String> changed(Tree tree) {
        Set<String> names = new TreeSet<>();
        new TreeScanner<Void, Void>() {
            @Override
            public Void visitAssignment(AssignmentTree assignment, Void nothing) {
                names.add(assignment.getVariable().toString());
                return super.visitAssignment(assignment, nothing);
            }

            @Override
            public Void visitCompoundAssignment(CompoundAssignmentTree assignment, Void nothing) {
                names.add(assignment.getVariable().toString());
                return super.visitCompoundAssignment(assignment, nothing);
            }

            @Override
            public Void visitUnary(UnaryTree unary, Void nothing) {
                boolean isChange = unary.getKind().name().contains("CREMENT");
                if (isChange) {
                    names.add(unary.getExpression().toString());
                }
                return super.visitUnary(unary, nothing);
            }
        }.scan(tree, null);
        return names;
    }

    private void field(VariableTree field) {
        if (field.getModifiers().getFlags().contains(javax.lang.model.element.Modifier.STATIC)) {
            new TreeScanner<Void, Void>() {
                @Override
                public Void scan(Tree tree, Void nothing) {
                    holds("a constant: " + field, tree == null || tree instanceof LiteralTree || tree instanceof IdentifierTree
                        || tree instanceof BinaryTree || tree instanceof UnaryTree);
                    return super.scan(tree, nothing);
                }
            }.scan(field.getInitializer(), null);
        }
    }

    private static boolean isAllowed(Tree type) {
        Tree element = type instanceof ArrayTypeTree ? ((ArrayTypeTree) type).getType() : type;
        return element instanceof PrimitiveTypeTree
            && Set.of("int", "long", "short", "byte", "char", "boolean").contains(element.toString());
    }

    private static void collectCalls(Tree tree, Set<String> into) {
        new TreeScanner<Void, Void>() {
            @Override
            public Void visitMethodInvocation(MethodInvocationTree call, Void nothing) {
                into.add(call.getMethodSelect().toString());
                return super.visitMethodInvocation(call, nothing);
            }
        }.scan(tree, null);
    }

    private void arrays(ClassTree type) {
        for (Tree member : type.getMembers()) {
            boolean isField = member instanceof VariableTree;
            Tree initialiser = isField ? ((VariableTree) member).getInitializer() : null;
            new TreeScanner<Void, Void>() {
                @Override
                public Void visitNewArray(NewArrayTree array, Void nothing) {
                    List<? extends ExpressionTree> lengths = array.getDimensions();
                    holds("an array of a field: " + array, array == initialiser && lengths.size() == 1
                        && (lengths.get(0) instanceof LiteralTree || lengths.get(0) instanceof IdentifierTree));
                    return super.visitNewArray(array, nothing);
                }
            }.scan(member, null);
        }
    }

    private void method(MethodTree method) {
        String name = method.getName().toString();
        holds(name + " takes at most seven parameters", method.getParameters().size() <= 7);
        long lines = method.toString().lines().count();
        holds(name + " is short, not " + lines + " lines", lines <= 60);
        Tree answer = method.getReturnType();
        holds(name + " answers no array", answer == null || answer instanceof PrimitiveTypeTree);
        Set<String> called = new TreeSet<>();
        collectCalls(method.getBody(), called);
        called.remove("super");
        holds(name + " is one method of that name", calls.put(name, called) == null);
    }

    // How many methods are at work at most; a recursion counts as too many.
    private int depth(String name, int above) {
        if (above > 20 || !calls.containsKey(name)) {
            return 1000;
        }
        int most = 0;
        for (String called : calls.get(name)) {
            most = Math.max(most, depth(called, above + 1));
        }
        return most + 1;
    }
}
