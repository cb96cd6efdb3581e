import com.sun.source.tree.*;
import com.sun.source.util.JavacTask;
import com.sun.source.util.TreeScanner;
import java.lang.reflect.Constructor;
import java.lang.reflect.Field;
import java.lang.reflect.Method;
import java.lang.reflect.Modifier;
import java.nio.file.Path;
import java.util.EnumSet;
import java.util.HashMap;
import java.util.HashSet;
import java.util.List;
import java.util.Map;
import java.util.Set;
import java.util.TreeSet;
import javax.tools.JavaCompiler;
import javax.tools.StandardJavaFileManager;
import javax.tools.ToolProvider;

/** The rules of LANGUAGE.md that can be read off the source or the class, by their numbers. Run it in the project's root. */
public final class LanguageTest {
    private static final Path SOURCE = Path.of("src/main/java/MailProcesses.java");

    private static final Set<String> FACE = Set.of(
        "code(int,int,int)int", "wipe()int", "load(int)boolean", "purge(int)int", "spawn(int,int)int",
        "send(int,int,int)boolean", "exit(int,int)boolean", "run(int)int", "state(int)int", "process(int,int)int",
        "register(int,int)int", "message(int,int,int)long", "ready(int)int", "told(int)int", "count(int)int");

    private static final Set<Tree.Kind> FORBIDDEN = EnumSet.of(
        Tree.Kind.THROW, Tree.Kind.TRY, Tree.Kind.CATCH, Tree.Kind.SYNCHRONIZED, Tree.Kind.ASSERT,
        Tree.Kind.INSTANCE_OF, Tree.Kind.LAMBDA_EXPRESSION, Tree.Kind.MEMBER_REFERENCE, Tree.Kind.NEW_CLASS,
        Tree.Kind.IMPORT, Tree.Kind.PACKAGE, Tree.Kind.STRING_LITERAL, Tree.Kind.NULL_LITERAL,
        Tree.Kind.FLOAT_LITERAL, Tree.Kind.DOUBLE_LITERAL, Tree.Kind.PARAMETERIZED_TYPE, Tree.Kind.ANNOTATION);

    private static final Set<Tree.Kind> COMPARISONS = EnumSet.of(
        Tree.Kind.LESS_THAN, Tree.Kind.LESS_THAN_EQUAL, Tree.Kind.GREATER_THAN, Tree.Kind.GREATER_THAN_EQUAL,
        Tree.Kind.EQUAL_TO, Tree.Kind.NOT_EQUAL_TO);

    // "Some sixty" lines and "some forty" fields: a tenth more is taken for some.
    private static final int MOST_LINES = 66;
    private static final int MOST_FIELDS = 44;

    private static final Set<String> TYPES = Set.of("int", "long", "short", "byte", "char", "boolean");

    private final Checks checks = new Checks();
    private final Map<String, Set<String>> calls = new HashMap<>();
    private final Set<String> arrayFields = new HashSet<>();

    public static void main(String[] args) throws Exception {
        LanguageTest test = new LanguageTest();
        test.face();
        test.source();
        test.callGraph();
        test.checks.end();
    }

    private void hold(String rule, boolean holds) {
        checks.due(rule, holds, true);
    }

    private void face() {
        Class<MailProcesses> face = MailProcesses.class;
        hold("rule 1: public and final", face.getModifiers() == (Modifier.PUBLIC | Modifier.FINAL));
        hold("rule 1: no nested class", face.getDeclaredClasses().length == 0);
        Constructor<?>[] constructors = face.getDeclaredConstructors();
        hold("rule 1: one constructor", constructors.length == 1 && constructors[0].getModifiers() == Modifier.PUBLIC);
        hold("rule 1: it takes nothing", constructors[0].getParameterCount() == 0);
        Set<String> open = new TreeSet<>();
        Set<String> openNames = new HashSet<>();
        for (Method method : face.getDeclaredMethods()) {
            if (!Modifier.isPrivate(method.getModifiers())) {
                StringBuilder types = new StringBuilder();
                for (Class<?> type : method.getParameterTypes()) {
                    types.append(types.length() == 0 ? "" : ",").append(type.getName());
                }
                open.add(method.getName() + "(" + types + ")" + method.getReturnType().getName());
                openNames.add(method.getName());
                hold("rule 1: public " + method, method.getModifiers() == Modifier.PUBLIC);
            }
        }
        hold("rule 1: the methods of the document and no other: " + open, open.equals(FACE));
        for (Method method : face.getDeclaredMethods()) {
            hold("rule 1: a name of its own: " + method,
                !Modifier.isPrivate(method.getModifiers()) || !openNames.contains(method.getName()));
        }
        int own = 0;
        for (Field field : face.getDeclaredFields()) {
            boolean constant = Modifier.isStatic(field.getModifiers());
            own += constant ? 0 : 1;
            hold("rule 1: private " + field, Modifier.isPrivate(field.getModifiers()) || field.getName().equals("NONE"));
            hold("rule 5: a constant of int or long: " + field,
                !constant || Modifier.isFinal(field.getModifiers()) && (field.getType() == int.class || field.getType() == long.class));
        }
        hold("rule 10: some forty fields, not " + own, own <= MOST_FIELDS);
    }

    private void source() throws Exception {
        JavaCompiler compiler = ToolProvider.getSystemJavaCompiler();
        try (StandardJavaFileManager files = compiler.getStandardFileManager(null, null, null)) {
            JavacTask task = (JavacTask) compiler.getTask(null, files, null, null, null, files.getJavaFileObjects(SOURCE));
            for (CompilationUnitTree unit : task.parse()) {
                hold("rule 1: one class in the file", unit.getTypeDecls().size() == 1);
                unit.accept(new Rules(unit.getLineMap(), task), null);
            }
        }
    }

    /** Walks the source; the method that it is in, if any, decides what may stand there. */
    private final class Rules extends TreeScanner<Void, Void> {
        private final LineMap lines;
        private final com.sun.source.util.Trees trees;
        private CompilationUnitTree unit;
        private String method;
        private boolean inArguments;

        Rules(LineMap lines, JavacTask task) {
            this.lines = lines;
            this.trees = com.sun.source.util.Trees.instance(task);
        }

        @Override
        public Void visitCompilationUnit(CompilationUnitTree tree, Void nothing) {
            unit = tree;
            return super.visitCompilationUnit(tree, nothing);
        }

        @Override
        public Void scan(Tree tree, Void nothing) {
            if (tree != null && FORBIDDEN.contains(tree.getKind())) {
                hold("rules 2, 3, 6: " + tree.getKind() + " in " + method + ": " + tree, false);
            }
            return super.scan(tree, nothing);
        }

        @Override
        public Void visitVariable(VariableTree tree, Void nothing) {
            String type = tree.getType().toString();
            hold("rule 2: " + type + " " + tree.getName(), TYPES.contains(type.replaceFirst("\\[\\]$", "")));
            if (method == null && type.endsWith("[]")) {
                arrayFields.add(tree.getName().toString());
            }
            return super.visitVariable(tree, nothing);
        }

        @Override
        public Void visitClass(ClassTree tree, Void nothing) {
            for (Tree member : tree.getMembers()) {
                hold("rule 5: no static initialiser", !(member instanceof BlockTree block && block.isStatic()));
            }
            return super.visitClass(tree, nothing);
        }

        @Override
        public Void visitTypeCast(TypeCastTree tree, Void nothing) {
            hold("rules 2, 6: a cast between the number types: " + tree, TYPES.contains(tree.getType().toString()));
            return super.visitTypeCast(tree, nothing);
        }

        @Override
        public Void visitMemberSelect(MemberSelectTree tree, Void nothing) {
            boolean plain = tree.getIdentifier().contentEquals("length") || tree.getExpression().toString().equals("this");
            hold("rule 3: " + tree, plain);
            return super.visitMemberSelect(tree, nothing);
        }

        @Override
        public Void visitAssignment(AssignmentTree tree, Void nothing) {
            hold("rule 4: no method assigns to an array field: " + tree,
                method.equals("<init>") || !namesAnArrayField(tree.getVariable()));
            return super.visitAssignment(tree, nothing);
        }

        @Override
        public Void visitBinary(BinaryTree tree, Void nothing) {
            hold("rule 4: no array is compared: " + tree,
                !namesAnArrayField(tree.getLeftOperand()) && !namesAnArrayField(tree.getRightOperand()));
            return super.visitBinary(tree, nothing);
        }

        private boolean namesAnArrayField(Tree tree) {
            return arrayFields.contains(tree.toString().replaceFirst("^this\\.", ""));
        }

        @Override
        public Void visitMethod(MethodTree tree, Void nothing) {
            method = tree.getName().toString();
            calls.put(method, new TreeSet<>());
            String answer = tree.getReturnType() == null ? "void" : tree.getReturnType().toString();
            hold("rules 2, 4: " + method + " answers " + answer, answer.equals("void") || TYPES.contains(answer));
            hold("rule 10: parameters of " + method, tree.getParameters().size() <= 7);
            long first = lines.getLineNumber(trees.getSourcePositions().getStartPosition(unit, tree));
            long last = lines.getLineNumber(trees.getSourcePositions().getEndPosition(unit, tree));
            hold("rule 10: " + method + " has " + (last - first + 1) + " lines", last - first < MOST_LINES);
            super.visitMethod(tree, nothing);
            method = null;
            return null;
        }

        @Override
        public Void visitNewArray(NewArrayTree tree, Void nothing) {
            boolean plain = tree.getInitializers() == null && tree.getDimensions().size() == 1
                && List.of(Tree.Kind.INT_LITERAL, Tree.Kind.IDENTIFIER).contains(tree.getDimensions().get(0).getKind());
            hold("rule 4: " + tree + " in " + method, method == null && plain);
            return super.visitNewArray(tree, nothing);
        }

        @Override
        public Void visitMethodInvocation(MethodInvocationTree tree, Void nothing) {
            hold("rule 10: a call inside arguments: " + tree, !inArguments);
            calls.get(method).add(tree.getMethodSelect().toString().replaceFirst("^this\\.", ""));
            inArguments = true;
            scan(tree.getArguments(), nothing);
            inArguments = false;
            return null;
        }

        @Override
        public Void visitForLoop(ForLoopTree tree, Void nothing) {
            hold("rule 8: a counter against a bound: " + tree.getCondition(), compares(tree.getCondition()));
            return super.visitForLoop(tree, nothing);
        }

        @Override
        public Void visitWhileLoop(WhileLoopTree tree, Void nothing) {
            hold("rule 8: a counter against a bound: " + tree.getCondition(), compares(tree.getCondition()));
            return super.visitWhileLoop(tree, nothing);
        }

        @Override
        public Void visitDoWhileLoop(DoWhileLoopTree tree, Void nothing) {
            hold("rule 8: a counter against a bound: " + tree.getCondition(), compares(tree.getCondition()));
            return super.visitDoWhileLoop(tree, nothing);
        }

        private boolean compares(Tree condition) {
            Set<Tree> found = new HashSet<>();
            new TreeScanner<Void, Void>() {
                @Override
                public Void visitBinary(BinaryTree tree, Void nothing) {
                    if (COMPARISONS.contains(tree.getKind())) {
                        found.add(tree);
                    }
                    return super.visitBinary(tree, nothing);
                }
            }.scan(condition, null);
            return !found.isEmpty();
        }
    }

    private void callGraph() {
        for (String name : calls.keySet()) {
            int depth = depth(name, new HashSet<>());
            hold("rules 8, 10: calls from " + name + " go " + depth + " deep", depth <= 6);
            hold("rule 3: every method that " + name + " calls is the class's own", calls.keySet().containsAll(calls.get(name)));
        }
    }

    /** How many methods stand on each other at most; far too many if one comes twice. */
    private int depth(String name, Set<String> above) {
        if (!above.add(name)) {
            return 1000;
        }
        int deepest = 0;
        for (String next : calls.getOrDefault(name, Set.of())) {
            deepest = Math.max(deepest, depth(next, above));
        }
        above.remove(name);
        return deepest + 1;
    }
}
