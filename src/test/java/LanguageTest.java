import com.sun.source.tree.ArrayTypeTree;
import com.sun.source.tree.ClassTree;
import com.sun.source.tree.CompilationUnitTree;
import com.sun.source.tree.IdentifierTree;
import com.sun.source.tree.MemberSelectTree;
import com.sun.source.tree.MethodInvocationTree;
import com.sun.source.tree.MethodTree;
import com.sun.source.tree.NewArrayTree;
import com.sun.source.tree.NewClassTree;
import com.sun.source.tree.PrimitiveTypeTree;
import com.sun.source.tree.Tree;
import com.sun.source.tree.VariableTree;
import com.sun.source.util.JavacTask;
import com.sun.source.util.TreePath;
import com.sun.source.util.TreePathScanner;
import com.sun.source.util.Trees;
import java.io.File;
import java.io.IOException;
import java.util.HashMap;
import java.util.HashSet;
import java.util.Map;
import java.util.Set;
import java.util.TreeSet;
import javax.lang.model.element.Modifier;
import javax.lang.model.type.TypeKind;
import javax.tools.JavaCompiler;
import javax.tools.StandardJavaFileManager;
import javax.tools.ToolProvider;

/** The rules of LANGUAGE.md that can be read off the source (1 to 6, 8 and 10). */
public final class LanguageTest {
    private static final String SOURCE = "src/main/java/PolicyRouting.java";
    private static final int MOST_LINES = 60;
    private static final int MOST_PARAMETERS = 7;
    private static final int MOST_DEPTH = 6;
    private static final int MOST_FIELDS = 40;
    private static final Set<String> FACE = Set.of(
        "<init>(int,int)int", "addLink(int,int,int)int", "fail(int,int)int", "restore(int,int)int",
        "originate(int)int", "withdraw(int)int", "deliver(int,int)int", "settle()int",
        "selected(int)long", "expected(int)long", "routeKind(int)int", "heard(int,int)long",
        "message(int,int,int)long", "inFlight()int", "relation(int,int)int", "isUp(int,int)boolean",
        "forward(int)int");
    private static final Set<String> CONSTANTS = Set.of(
        "DONE", "MOVED", "BAD", "NO_LINK", "ALREADY", "CYCLE", "EMPTY", "LOOP", "DROPPED",
        "NONE", "OWN", "CUSTOMER", "PEER", "PROVIDER");
    private static final Set<Tree.Kind> FORBIDDEN = Set.of(
        Tree.Kind.THROW, Tree.Kind.TRY, Tree.Kind.SYNCHRONIZED, Tree.Kind.ASSERT, Tree.Kind.INSTANCE_OF,
        Tree.Kind.LAMBDA_EXPRESSION, Tree.Kind.MEMBER_REFERENCE, Tree.Kind.NULL_LITERAL,
        Tree.Kind.STRING_LITERAL, Tree.Kind.FLOAT_LITERAL, Tree.Kind.DOUBLE_LITERAL, Tree.Kind.IMPORT,
        Tree.Kind.PACKAGE);

    private static final Checks checks = new Checks("LanguageTest");

    public static void main(String[] args) throws IOException {
        JavaCompiler compiler = ToolProvider.getSystemJavaCompiler();
        try (StandardJavaFileManager files = compiler.getStandardFileManager(null, null, null)) {
            JavacTask task = (JavacTask) compiler.getTask(
                null, files, null, null, null, files.getJavaFileObjects(new File(SOURCE)));
            Reader reader = new Reader(Trees.instance(task));
            for (CompilationUnitTree unit : task.parse()) {
                reader.scan(unit, null);
            }
            reader.finish();
        }
        checks.finish();
    }

    private static final class Reader extends TreePathScanner<Void, Void> {
        private final Trees trees;
        private final Map<String, Set<String>> calls = new HashMap<>();
        private final Set<String> publicMethods = new TreeSet<>();
        private final Set<String> publicFields = new TreeSet<>();
        private final Set<String> methodNames = new HashSet<>();
        private int classes = 0;
        private int fields = 0;
        private String method = "";

        Reader(Trees trees) {
            this.trees = trees;
        }

        @Override
        public Void scan(Tree tree, Void nothing) {
            if (tree != null && FORBIDDEN.contains(tree.getKind())) {
                checks.fault("forbidden: " + tree);
            }
            return super.scan(tree, nothing);
        }

        @Override
        public Void visitClass(ClassTree tree, Void nothing) {
            classes++;
            Set<Modifier> wanted = Set.of(Modifier.PUBLIC, Modifier.FINAL);
            if (!tree.getModifiers().getFlags().equals(wanted)) {
                checks.fault("the class is not public and final");
            }
            return super.visitClass(tree, nothing);
        }

        @Override
        public Void visitMethod(MethodTree tree, Void nothing) {
            method = tree.getName().toString();
            if (!methodNames.add(method)) {
                checks.fault("two methods named " + method);
            }
            if (isPublic(tree.getModifiers().getFlags(), method)) {
                publicMethods.add(signature(tree));
            }
            if (tree.getParameters().size() > MOST_PARAMETERS) {
                checks.fault(method + " takes too many parameters");
            }
            CompilationUnitTree unit = getCurrentPath().getCompilationUnit();
            long start = trees.getSourcePositions().getStartPosition(unit, tree);
            long end = trees.getSourcePositions().getEndPosition(unit, tree);
            long lines = unit.getLineMap().getLineNumber(end) - unit.getLineMap().getLineNumber(start) + 1;
            if (lines > MOST_LINES) {
                checks.fault(method + " has " + lines + " lines");
            }
            if (tree.getReturnType() != null && tree.getReturnType().getKind() != Tree.Kind.PRIMITIVE_TYPE) {
                checks.fault(method + " answers " + tree.getReturnType());
            }
            calls.put(method, new HashSet<>());
            super.visitMethod(tree, nothing);
            method = "";
            return null;
        }

        private static String signature(MethodTree tree) {
            StringBuilder types = new StringBuilder();
            for (VariableTree parameter : tree.getParameters()) {
                types.append(types.length() == 0 ? "" : ",").append(parameter.getType());
            }
            Tree answer = tree.getReturnType();
            return tree.getName() + "(" + types + ")" + (answer == null ? "int" : answer);
        }

        private static boolean isPublic(Set<Modifier> flags, String name) {
            if (!flags.contains(Modifier.PUBLIC) && !flags.contains(Modifier.PRIVATE)) {
                checks.fault(name + " is neither public nor private");
            }
            return flags.contains(Modifier.PUBLIC);
        }

        @Override
        public Void visitVariable(VariableTree tree, Void nothing) {
            Tree type = tree.getType();
            boolean isArray = type instanceof ArrayTypeTree;
            Tree inner = isArray ? ((ArrayTypeTree) type).getType() : type;
            if (!(inner instanceof PrimitiveTypeTree)) {
                checks.fault("type of " + tree);
            }
            if (method.isEmpty()) {
                field(tree, isArray);
            }
            return super.visitVariable(tree, nothing);
        }

        private void field(VariableTree tree, boolean isArray) {
            Set<Modifier> flags = tree.getModifiers().getFlags();
            if (isPublic(flags, tree.getName().toString())) {
                publicFields.add(tree.getName().toString());
            }
            if (!flags.contains(Modifier.STATIC)) {
                fields++;
            } else if (isArray || !flags.contains(Modifier.FINAL)) {
                checks.fault("static field that is no constant: " + tree);
            }
            if (isArray && !flags.contains(Modifier.FINAL)) {
                checks.fault("array field that can be assigned to: " + tree);
            }
        }

        @Override
        public Void visitPrimitiveType(PrimitiveTypeTree tree, Void nothing) {
            TypeKind kind = tree.getPrimitiveTypeKind();
            if (kind == TypeKind.FLOAT || kind == TypeKind.DOUBLE) {
                checks.fault("float or double");
            }
            return super.visitPrimitiveType(tree, nothing);
        }

        @Override
        public Void visitNewArray(NewArrayTree tree, Void nothing) {
            if (!method.isEmpty() || tree.getInitializers() != null || tree.getDimensions().size() != 1) {
                checks.fault("array that is not made in a field's initialiser by its length: " + tree);
            }
            return super.visitNewArray(tree, nothing);
        }

        @Override
        public Void visitNewClass(NewClassTree tree, Void nothing) {
            checks.fault("an object is made: " + tree);
            return super.visitNewClass(tree, nothing);
        }

        @Override
        public Void visitMemberSelect(MemberSelectTree tree, Void nothing) {
            checks.fault("a member of something else: " + tree);
            return super.visitMemberSelect(tree, nothing);
        }

        @Override
        public Void visitMethodInvocation(MethodInvocationTree tree, Void nothing) {
            if (!(tree.getMethodSelect() instanceof IdentifierTree)) {
                return super.visitMethodInvocation(tree, nothing);
            }
            String called = ((IdentifierTree) tree.getMethodSelect()).getName().toString();
            calls.get(method).add(called);
            for (TreePath up = getCurrentPath().getParentPath(); up != null; up = up.getParentPath()) {
                if (up.getLeaf() instanceof MethodInvocationTree) {
                    checks.fault("a call inside the arguments of another: " + up.getLeaf());
                }
            }
            return super.visitMethodInvocation(tree, nothing);
        }

        void finish() {
            checks.due("number of classes", classes, 1);
            if (!publicMethods.equals(FACE)) {
                checks.fault("public methods are " + publicMethods);
            }
            if (!publicFields.equals(CONSTANTS)) {
                checks.fault("public fields are " + publicFields);
            }
            if (fields > MOST_FIELDS) {
                checks.fault(fields + " fields");
            }
            for (String name : calls.keySet()) {
                int depth = depth(name, new HashSet<>());
                if (depth > MOST_DEPTH) {
                    checks.fault("calls from " + name + " go " + depth + " deep");
                }
            }
        }

        private int depth(String name, Set<String> above) {
            if (!calls.containsKey(name)) {
                checks.fault("call of " + name + ", which is no method of the class");
                return 0;
            }
            if (!above.add(name)) {
                checks.fault("recursion through " + name);
                return 0;
            }
            int deepest = 0;
            for (String called : calls.get(name)) {
                deepest = Math.max(deepest, depth(called, above));
            }
            above.remove(name);
            return deepest + 1;
        }
    }
}
