import com.sun.source.tree.AssignmentTree;
import com.sun.source.tree.ClassTree;
import com.sun.source.tree.CompilationUnitTree;
import com.sun.source.tree.ExpressionTree;
import com.sun.source.tree.IdentifierTree;
import com.sun.source.tree.LiteralTree;
import com.sun.source.tree.MemberSelectTree;
import com.sun.source.tree.MethodInvocationTree;
import com.sun.source.tree.MethodTree;
import com.sun.source.tree.NewArrayTree;
import com.sun.source.tree.Tree;
import com.sun.source.tree.VariableTree;
import com.sun.source.util.JavacTask;
import com.sun.source.util.SourcePositions;
import com.sun.source.util.TreeScanner;
import com.sun.source.util.Trees;
import java.io.File;
import java.io.IOException;
import java.lang.reflect.Constructor;
import java.lang.reflect.Field;
import java.lang.reflect.Method;
import java.lang.reflect.Modifier;
import java.util.EnumSet;
import java.util.HashMap;
import java.util.HashSet;
import java.util.List;
import java.util.Map;
import java.util.Set;
import java.util.TreeSet;
import javax.tools.JavaCompiler;
import javax.tools.StandardJavaFileManager;
import javax.tools.ToolProvider;

/** The public face, and the rules of LANGUAGE.md that can be read off the source. */
public final class LanguageTests {
    private static final String SOURCE = "src/main/java/RecoverableTable.java";
    private static final Set<String> FACE = Set.of(
        "int begin()", "int read(int,int)", "int value()", "int write(int,int,int)", "int add(int,int,int)",
        "int changes(int)", "int back(int,int)", "int commit(int)", "int abort(int)", "int prepare(int)",
        "int state(int)", "int now(int)", "boolean steal(int)", "boolean checkpoint()", "boolean crash()",
        "boolean restart(int)");
    private static final Set<String> CONSTANTS =
        Set.of("OK", "DOWN", "NONE", "BUSY", "FULL", "BAD", "OPEN", "PREPARED");
    private static final Set<String> TYPES =
        Set.of("int", "long", "short", "byte", "char", "boolean", "void",
            "int[]", "long[]", "short[]", "byte[]", "char[]", "boolean[]");
    private static final EnumSet<Tree.Kind> FORBIDDEN = EnumSet.of(
        Tree.Kind.IMPORT, Tree.Kind.PACKAGE, Tree.Kind.THROW, Tree.Kind.TRY, Tree.Kind.CATCH,
        Tree.Kind.SYNCHRONIZED, Tree.Kind.ASSERT, Tree.Kind.INSTANCE_OF, Tree.Kind.LAMBDA_EXPRESSION,
        Tree.Kind.MEMBER_REFERENCE, Tree.Kind.NEW_CLASS, Tree.Kind.NULL_LITERAL, Tree.Kind.STRING_LITERAL,
        Tree.Kind.FLOAT_LITERAL, Tree.Kind.DOUBLE_LITERAL, Tree.Kind.INTERFACE, Tree.Kind.ENUM,
        Tree.Kind.RECORD, Tree.Kind.ENHANCED_FOR_LOOP);
    private static final int MOST_LINES = 60, MOST_FIELDS = 40, MOST_PARAMETERS = 7, MOST_DEEP = 6;

    private static final Checks CHECKS = new Checks("LanguageTests");

    private final Map<String, Set<String>> calls = new HashMap<>();
    private CompilationUnitTree unit;
    private SourcePositions positions;

    public static void main(String[] args) throws IOException {
        CHECKS.part("the public face");
        publicFace();
        fields();
        new LanguageTests().source();
        CHECKS.close();
    }

    private static void rule(String what, boolean holds) {
        CHECKS.due(what, holds, true);
    }

    private static void publicFace() {
        Class<?> type = RecoverableTable.class;
        rule("public and final", Modifier.isPublic(type.getModifiers()) && Modifier.isFinal(type.getModifiers()));
        rule("no class inside", type.getDeclaredClasses().length == 0);
        Set<String> open = new HashSet<>();
        Set<String> openNames = new HashSet<>();
        for (Method method : type.getDeclaredMethods()) {
            if (!Modifier.isPrivate(method.getModifiers())) {
                open.add(signature(method));
                openNames.add(method.getName());
            }
        }
        rule("the methods are those of the document: " + new TreeSet<>(open), open.equals(FACE));
        for (Method method : type.getDeclaredMethods()) {
            boolean hidden = Modifier.isPrivate(method.getModifiers());
            boolean taken = hidden && openNames.contains(method.getName());
            rule(method.getName() + " is not the name of a public one", !taken);
        }
        Constructor<?>[] constructors = type.getDeclaredConstructors();
        rule("one public constructor", constructors.length == 1
            && Modifier.isPublic(constructors[0].getModifiers()) && constructors[0].getParameterCount() == 0);
    }

    private static String signature(Method method) {
        StringBuilder types = new StringBuilder();
        for (Class<?> type : method.getParameterTypes()) {
            types.append(types.length() == 0 ? "" : ",").append(type.getSimpleName());
        }
        return method.getReturnType().getSimpleName() + " " + method.getName() + "(" + types + ")";
    }

    private static void fields() {
        Set<String> open = new HashSet<>();
        int held = 0;
        for (Field field : RecoverableTable.class.getDeclaredFields()) {
            int modifiers = field.getModifiers();
            String name = field.getName();
            if (!Modifier.isPrivate(modifiers)) {
                open.add(name);
                rule(name + " is a public constant", Modifier.isPublic(modifiers) && Modifier.isStatic(modifiers));
            }
            if (Modifier.isStatic(modifiers)) {
                boolean whole = field.getType() == int.class || field.getType() == long.class;
                rule(name + " is a constant int or long", Modifier.isFinal(modifiers) && whole);
            } else {
                held++;
                boolean array = field.getType().isArray();
                rule(name + ", an array field, is final", !array || Modifier.isFinal(modifiers));
            }
        }
        rule("the constants are those of the document", open.equals(CONSTANTS));
        rule("fields: " + held, held <= MOST_FIELDS);
    }

    private void source() throws IOException {
        JavaCompiler compiler = ToolProvider.getSystemJavaCompiler();
        try (StandardJavaFileManager files = compiler.getStandardFileManager(null, null, null)) {
            JavacTask task = (JavacTask) compiler.getTask(null, files, null, null, null,
                files.getJavaFileObjects(new File(SOURCE)));
            positions = Trees.instance(task).getSourcePositions();
            unit = task.parse().iterator().next();
            CHECKS.part("the source");
            rule("one class", unit.getTypeDecls().size() == 1);
            unit.accept(new Rules(), null);
            callsGoDownOnly();
        }
    }

    private String at(Tree tree) {
        return "line " + unit.getLineMap().getLineNumber(positions.getStartPosition(unit, tree)) + ": ";
    }

    private void callsGoDownOnly() {
        Map<String, Integer> depths = new HashMap<>();
        // Without recursion every depth is settled after as many rounds as there are methods.
        for (int round = 0; round <= calls.size(); round++) {
            for (String method : calls.keySet()) {
                int depth = 1;
                for (String callee : calls.get(method)) {
                    depth = Math.max(depth, 1 + depths.getOrDefault(callee, 1));
                }
                depths.put(method, depth);
            }
        }
        for (Map.Entry<String, Integer> entry : depths.entrySet()) {
            rule(entry.getKey() + " calls " + entry.getValue() + " deep", entry.getValue() <= MOST_DEEP);
        }
    }

    private final class Rules extends TreeScanner<Void, Void> {
        private final Set<String> arrays = new HashSet<>();
        private String method = "";
        private boolean inArguments = false;

        @Override
        public Void scan(Tree tree, Void nothing) {
            if (tree != null) {
                rule(at(tree) + tree.getKind(), !FORBIDDEN.contains(tree.getKind()));
            }
            return super.scan(tree, nothing);
        }

        @Override
        public Void visitClass(ClassTree tree, Void nothing) {
            for (Tree member : tree.getMembers()) {
                boolean plain = member instanceof MethodTree || member instanceof VariableTree;
                rule(at(member) + "a field or a method", plain);
            }
            return super.visitClass(tree, nothing);
        }

        @Override
        public Void visitMethod(MethodTree tree, Void nothing) {
            method = tree.getName().toString();
            calls.put(method, new HashSet<>());
            String result = String.valueOf(tree.getReturnType());
            boolean constructor = tree.getReturnType() == null;
            rule(at(tree) + result, constructor || TYPES.contains(result) && !result.endsWith("]"));
            rule(at(tree) + "parameters", tree.getParameters().size() <= MOST_PARAMETERS);
            long first = unit.getLineMap().getLineNumber(positions.getStartPosition(unit, tree));
            long last = unit.getLineMap().getLineNumber(positions.getEndPosition(unit, tree));
            rule(at(tree) + "length", last - first < MOST_LINES);
            super.visitMethod(tree, nothing);
            method = "";
            return null;
        }

        @Override
        public Void visitVariable(VariableTree tree, Void nothing) {
            String type = String.valueOf(tree.getType());
            rule(at(tree) + type, TYPES.contains(type));
            if (type.endsWith("]")) {
                arrays.add(tree.getName().toString());
            }
            return super.visitVariable(tree, nothing);
        }

        @Override
        public Void visitNewArray(NewArrayTree tree, Void nothing) {
            rule(at(tree) + "an array made outside a field", method.isEmpty());
            List<? extends ExpressionTree> lengths = tree.getDimensions();
            rule(at(tree) + "one length, a literal or a constant", lengths.size() == 1
                && (lengths.get(0) instanceof LiteralTree || lengths.get(0) instanceof IdentifierTree));
            return super.visitNewArray(tree, nothing);
        }

        @Override
        public Void visitAssignment(AssignmentTree tree, Void nothing) {
            rule(at(tree) + "an array assigned", !arrays.contains(tree.getVariable().toString()));
            return super.visitAssignment(tree, nothing);
        }

        @Override
        public Void visitMemberSelect(MemberSelectTree tree, Void nothing) {
            rule(at(tree) + tree, tree.getIdentifier().contentEquals("length"));
            return super.visitMemberSelect(tree, nothing);
        }

        @Override
        public Void visitMethodInvocation(MethodInvocationTree tree, Void nothing) {
            String callee = tree.getMethodSelect().toString();
            // The constructor that javac puts first calls that of Object.
            if (!callee.equals("super")) {
                rule(at(tree) + "a call inside the arguments of another", !inArguments);
                calls.get(method).add(callee);
            }
            boolean outer = inArguments;
            inArguments = true;
            scan(tree.getArguments(), nothing);
            inArguments = outer;
            return scan(tree.getMethodSelect(), nothing);
        }
    }
}
