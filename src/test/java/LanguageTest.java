import com.sun.source.tree.ArrayTypeTree;
import com.sun.source.tree.ClassTree;
import com.sun.source.tree.CompilationUnitTree;
import com.sun.source.tree.IdentifierTree;
import com.sun.source.tree.MemberSelectTree;
import com.sun.source.tree.MethodInvocationTree;
import com.sun.source.tree.MethodTree;
import com.sun.source.tree.ModifiersTree;
import com.sun.source.tree.NewArrayTree;
import com.sun.source.tree.NewClassTree;
import com.sun.source.tree.PrimitiveTypeTree;
import com.sun.source.tree.Tree;
import com.sun.source.tree.VariableTree;
import com.sun.source.util.JavacTask;
import com.sun.source.util.TreePath;
import com.sun.source.util.TreePathScanner;
import com.sun.source.util.Trees;
import java.io.File;
import java.io.IOException;
import java.util.ArrayList;
import java.util.HashMap;
import java.util.HashSet;
import java.util.List;
import java.util.Map;
import java.util.Set;
import java.util.TreeSet;
import javax.lang.model.element.Modifier;
import javax.lang.model.type.TypeKind;
import javax.tools.JavaCompiler;
import javax.tools.StandardJavaFileManager;
import javax.tools.ToolProvider;

/** 'The public face', and the rules of LANGUAGE.md that can be read off the source (1 to 6, 8 and 10). */
public final class LanguageTest {
    private static final String SOURCE = "src/main/java/PolicyRouting.java";
    private static final int MOST_LINES = 60;
    private static final int MOST_PARAMETERS = 7;
    private static final int MOST_DEPTH = 6;
    private static final int MOST_FIELDS = 40;
    // The code block of 'The public face', line by line.
    private static final Set<String> FACE = Set.of(
        "public static final int DONE = 0;",
        "public static final int MOVED = 1;",
        "public static final int BAD = -1;",
        "public static final int NO_LINK = -2;",
        "public static final int ALREADY = -3;",
        "public static final int CYCLE = -4;",
        "public static final int EMPTY = -5;",
        "public static final int LOOP = -6;",
        "public static final int DROPPED = -7;",
        "public static final int NONE = 0;",
        "public static final int OWN = 1;",
        "public static final int CUSTOMER = 2;",
        "public static final int PEER = 3;",
        "public static final int PROVIDER = 4;",
        "public PolicyRouting(int nodes, int depth);",
        "public int addLink(int a, int b, int kind);",
        "public int fail(int a, int b);",
        "public int restore(int a, int b);",
        "public int originate(int node);",
        "public int withdraw(int node);",
        "public int deliver(int from, int to);",
        "public int settle();",
        "public long selected(int node);",
        "public long expected(int node);",
        "public int routeKind(int node);",
        "public long heard(int at, int from);",
        "public long message(int from, int to, int k);",
        "public int inFlight();",
        "public int relation(int a, int b);",
        "public boolean isUp(int a, int b);",
        "public int forward(int node);");
    private static final Set<Tree.Kind> FORBIDDEN = Set.of(
        Tree.Kind.THROW, Tree.Kind.TRY, Tree.Kind.SYNCHRONIZED, Tree.Kind.ASSERT, Tree.Kind.INSTANCE_OF,
        Tree.Kind.LAMBDA_EXPRESSION, Tree.Kind.MEMBER_REFERENCE, Tree.Kind.NULL_LITERAL,
        Tree.Kind.STRING_LITERAL, Tree.Kind.FLOAT_LITERAL, Tree.Kind.DOUBLE_LITERAL, Tree.Kind.IMPORT,
        Tree.Kind.PACKAGE);

    private static final Checks checks = new Checks("LanguageTest");

    public static void main(String[] args) throws IOException {
        JavaCompiler compiler = ToolProvider.getSystemJavaCompiler();
        try (StandardJavaFileManager files = compiler.getStandardFileManager(null, null, null)) {
            JavacTask task = (JavacTask) compiler.getTask(
                null, files, null, null, null, files.getJavaFileObjects(new File(SOURCE)));
            Reader reader = new Reader(Trees.instance(task));
            for (CompilationUnitTree unit : task.parse()) {
                reader.scan(unit, null);
            }
            reader.finish();
        }
        checks.finish();
    }

    private static final class Reader extends TreePathScanner<Void, Void> {
        private final Trees trees;
        private final Map<String, Set<String>> calls = new HashMap<>();
        private final Set<String> face = new TreeSet<>();
        private final Set<String> constants = new HashSet<>();
        private final Set<String> methodNames = new HashSet<>();
        private int classes = 0;
        private int fields = 0;
        private String method = "";

        Reader(Trees trees) {
            this.trees = trees;
        }

        @Override
        public Void scan(Tree tree, Void nothing) {
            if (tree != null && FORBIDDEN.contains(tree.getKind())) {
                checks.fault("forbidden: " + tree);
            }
            return super.scan(tree, nothing);
        }

        @Override
        public Void visitClass(ClassTree tree, Void nothing) {
            classes++;
            Set<Modifier> wanted = Set.of(Modifier.PUBLIC, Modifier.FINAL);
            if (!tree.getModifiers().getFlags().equals(wanted)) {
                checks.fault("the class is not public and final");
            }
            if (tree.getExtendsClause() != null || !tree.getImplementsClause().isEmpty()) {
                checks.fault("the class has members of another one");
            }
            for (Tree member : tree.getMembers()) {
                if (member.getKind() == Tree.Kind.BLOCK) {
                    checks.fault("initialiser: " + member);
                }
            }
            return super.visitClass(tree, nothing);
        }

        @Override
        public Void visitMethod(MethodTree tree, Void nothing) {
            method = tree.getName().toString();
            if (!methodNames.add(method)) {
                checks.fault("two methods named " + method);
            }
            if (isPublic(tree.getModifiers().getFlags(), method)) {
                face.add(header(tree));
            }
            if (tree.getParameters().size() > MOST_PARAMETERS) {
                checks.fault(method + " takes too many parameters");
            }
            CompilationUnitTree unit = getCurrentPath().getCompilationUnit();
            long start = trees.getSourcePositions().getStartPosition(unit, tree);
            long end = trees.getSourcePositions().getEndPosition(unit, tree);
            long lines = unit.getLineMap().getLineNumber(end) - unit.getLineMap().getLineNumber(start) + 1;
            if (lines > MOST_LINES) {
                checks.fault(method + " has " + lines + " lines");
            }
            if (tree.getReturnType() != null && tree.getReturnType().getKind() != Tree.Kind.PRIMITIVE_TYPE) {
                checks.fault(method + " answers " + tree.getReturnType());
            }
            calls.put(method, new HashSet<>());
            super.visitMethod(tree, nothing);
            method = "";
            return null;
        }

        /** The line that the document has for the method or the constructor. */
        private static String header(MethodTree tree) {
            boolean isConstructor = tree.getReturnType() == null;
            List<String> words = words(tree.getModifiers());
            words.add(isConstructor ? "PolicyRouting" : tree.getReturnType() + " " + tree.getName());
            List<String> parameters = new ArrayList<>();
            for (VariableTree parameter : tree.getParameters()) {
                parameters.add(parameter.getType() + " " + parameter.getName());
            }
            return String.join(" ", words) + "(" + String.join(", ", parameters) + ");";
        }

        private static String header(VariableTree field) {
            List<String> words = words(field.getModifiers());
            words.add(field.getType() + " " + field.getName() + " = " + field.getInitializer() + ";");
            return String.join(" ", words);
        }

        private static List<String> words(ModifiersTree modifiers) {
            List<String> words = new ArrayList<>();
            for (Modifier modifier : modifiers.getFlags()) {
                words.add(modifier.toString());
            }
            return words;
        }

        private static boolean isPublic(Set<Modifier> flags, String name) {
            if (!flags.contains(Modifier.PUBLIC) && !flags.contains(Modifier.PRIVATE)) {
                checks.fault(name + " is neither public nor private");
            }
            return flags.contains(Modifier.PUBLIC);
        }

        @Override
        public Void visitVariable(VariableTree tree, Void nothing) {
            Tree type = tree.getType();
            boolean isArray = type instanceof ArrayTypeTree;
            Tree inner = isArray ? ((ArrayTypeTree) type).getType() : type;
            if (!(inner instanceof PrimitiveTypeTree)) {
                checks.fault("type of " + tree);
            }
            if (method.isEmpty()) {
                field(tree, isArray);
            }
            return super.visitVariable(tree, nothing);
        }

        private void field(VariableTree tree, boolean isArray) {
            Set<Modifier> flags = tree.getModifiers().getFlags();
            if (isPublic(flags, tree.getName().toString())) {
                face.add(header(tree));
            }
            if (!flags.contains(Modifier.STATIC)) {
                fields++;
            } else if (isConstant(tree)) {
                constants.add(tree.getName().toString());
            } else {
                checks.fault("static field that is no constant of int or long: " + tree);
            }
            if (isArray && !flags.contains(Modifier.FINAL)) {
                checks.fault("array field that can be assigned to: " + tree);
            }
        }

        private static boolean isConstant(VariableTree field) {
            String type = field.getType().toString();
            boolean isFinal = field.getModifiers().getFlags().contains(Modifier.FINAL);
            return isFinal && field.getInitializer() != null && (type.equals("int") || type.equals("long"));
        }

        @Override
        public Void visitPrimitiveType(PrimitiveTypeTree tree, Void nothing) {
            TypeKind kind = tree.getPrimitiveTypeKind();
            if (kind == TypeKind.FLOAT || kind == TypeKind.DOUBLE) {
                checks.fault("float or double");
            }
            return super.visitPrimitiveType(tree, nothing);
        }

        @Override
        public Void visitNewArray(NewArrayTree tree, Void nothing) {
            if (!method.isEmpty() || tree.getInitializers() != null || tree.getDimensions().size() != 1) {
                checks.fault("array that is not made in a field's initialiser by its length: " + tree);
            } else if (!constants.contains(tree.getDimensions().get(0).toString())) {
                checks.fault("array with a length that is no constant: " + tree);
            }
            return super.visitNewArray(tree, nothing);
        }

        @Override
        public Void visitNewClass(NewClassTree tree, Void nothing) {
            checks.fault("an object is made: " + tree);
            return super.visitNewClass(tree, nothing);
        }

        @Override
        public Void visitMemberSelect(MemberSelectTree tree, Void nothing) {
            checks.fault("a member of something else: " + tree);
            return super.visitMemberSelect(tree, nothing);
        }

        @Override
        public Void visitMethodInvocation(MethodInvocationTree tree, Void nothing) {
            if (!(tree.getMethodSelect() instanceof IdentifierTree)) {
                return super.visitMethodInvocation(tree, nothing);
            }
            String called = ((IdentifierTree) tree.getMethodSelect()).getName().toString();
            calls.get(method).add(called);
            for (TreePath up = getCurrentPath().getParentPath(); up != null; up = up.getParentPath()) {
                if (up.getLeaf() instanceof MethodInvocationTree) {
                    checks.fault("a call inside the arguments of another: " + up.getLeaf());
                }
            }
            return super.visitMethodInvocation(tree, nothing);
        }

        void finish() {
            checks.due("number of classes", classes, 1);
            checkFace();
            if (fields > MOST_FIELDS) {
                checks.fault(fields + " fields");
            }
            for (String name : calls.keySet()) {
                int depth = depth(name, new HashSet<>());
                if (depth > MOST_DEPTH) {
                    checks.fault("calls from " + name + " go " + depth + " deep");
                }
            }
        }

        private void checkFace() {
            for (String line : FACE) {
                if (!face.contains(line)) {
                    checks.fault("not in the class: " + line);
                }
            }
            for (String line : face) {
                if (!FACE.contains(line)) {
                    checks.fault("not in the document: " + line);
                }
            }
        }

        private int depth(String name, Set<String> above) {
            if (!calls.containsKey(name)) {
                checks.fault("call of " + name + ", which is no method of the class");
                return 0;
            }
            if (!above.add(name)) {
                checks.fault("recursion through " + name);
                return 0;
            }
            int deepest = 0;
            for (String called : calls.get(name)) {
                deepest = Math.max(deepest, depth(called, above));
            }
            above.remove(name);
            return deepest + 1;
        }
    }
}
