import java.io.File;
import java.io.IOException;
import java.lang.reflect.Field;
import java.lang.reflect.Method;
import java.lang.reflect.Modifier;
import java.nio.file.Files;
import java.nio.file.Path;
import java.util.ArrayList;
import java.util.List;
import java.util.Set;
import java.util.TreeSet;
import java.util.regex.Matcher;
import java.util.regex.Pattern;

/** README.md: the answers of its example, its constants, its calls and its tests. */
public final class ReadmeTest {
    private static final Pattern MADE = Pattern.compile("PolicyRouting net = new PolicyRouting\\((\\d), (\\d)\\);.*");
    private static final Pattern CALL = Pattern.compile("net\\.(\\w+)\\((.*)\\); +// ([^:]+): .*");
    private static final Pattern CONSTANT = Pattern.compile("\\| `([A-Z_]+)` \\| (-?\\d) \\|.*");
    private static final Pattern HEADER = Pattern.compile("\\| `(int|long|boolean) (\\w+)\\((.*?)\\)` \\|.*");

    private static final Checks checks = new Checks("README.md");

    public static void main(String[] args) throws IOException, ReflectiveOperationException {
        List<String> lines = Files.readAllLines(Path.of("README.md"));
        runExample(lines);
        checkConstants(lines);
        checkCalls(lines);
        checkTests(String.join("\n", lines));
        checks.finish();
    }

    /** Every line of the example has the answer behind it, and every call is in the example. */
    private static void runExample(List<String> lines) throws ReflectiveOperationException {
        PolicyRouting net = null;
        Set<String> called = new TreeSet<>();
        for (String line : lines.subList(lines.indexOf("```java") + 1, lines.lastIndexOf("```"))) {
            Matcher made = MADE.matcher(line);
            Matcher call = CALL.matcher(line);
            if (made.matches()) {
                net = new PolicyRouting(Integer.parseInt(made.group(1)), Integer.parseInt(made.group(2)));
            } else if (call.matches() && net != null) {
                called.add(call.group(1));
                checks.due(line, answer(net, call.group(1), call.group(2)), value(call.group(3)));
            } else {
                checks.fault("not to be read: " + line);
            }
        }
        for (Method method : publicMethods()) {
            if (!called.contains(method.getName())) {
                checks.fault("the example does not show " + method.getName());
            }
        }
    }

    private static long answer(PolicyRouting net, String name, String arguments) throws ReflectiveOperationException {
        List<Object> given = new ArrayList<>();
        for (String argument : arguments.isEmpty() ? new String[0] : arguments.split(", ")) {
            given.add((int) value(argument.replace("PolicyRouting.", "")));
        }
        for (Method method : publicMethods()) {
            if (method.getName().equals(name)) {
                Object got = method.invoke(net, given.toArray());
                return got instanceof Boolean ? value(got.toString()) : ((Number) got).longValue();
            }
        }
        throw new NoSuchMethodException(name);
    }

    private static long value(String written) throws ReflectiveOperationException {
        if (written.equals("true") || written.equals("false")) {
            return written.equals("true") ? 1 : 0;
        }
        if (Character.isDigit(written.charAt(0))) {
            return Long.decode(written);
        }
        return PolicyRouting.class.getField(written).getInt(null);
    }

    private static List<Method> publicMethods() {
        List<Method> methods = new ArrayList<>();
        for (Method method : PolicyRouting.class.getDeclaredMethods()) {
            if (Modifier.isPublic(method.getModifiers())) {
                methods.add(method);
            }
        }
        return methods;
    }

    private static void checkConstants(List<String> lines) throws ReflectiveOperationException {
        Set<String> told = new TreeSet<>();
        for (String line : lines) {
            Matcher constant = CONSTANT.matcher(line);
            if (constant.matches()) {
                told.add(constant.group(1) + " = " + constant.group(2));
            }
        }
        Set<String> present = new TreeSet<>();
        for (Field field : PolicyRouting.class.getFields()) {
            present.add(field.getName() + " = " + field.get(null));
        }
        same("constants", told, present);
    }

    private static void checkCalls(List<String> lines) {
        Set<String> told = new TreeSet<>();
        for (String line : lines) {
            Matcher header = HEADER.matcher(line);
            if (header.matches()) {
                String types = header.group(3).replaceAll(" \\w+(?=,|$)", "");
                told.add(header.group(1) + " " + header.group(2) + "(" + types + ")");
            }
        }
        Set<String> present = new TreeSet<>();
        for (Method method : publicMethods()) {
            List<String> types = new ArrayList<>();
            for (Class<?> type : method.getParameterTypes()) {
                types.add(type.getName());
            }
            present.add(method.getReturnType() + " " + method.getName() + "(" + String.join(", ", types) + ")");
        }
        same("calls", told, present);
    }

    private static void checkTests(String readme) {
        for (String file : new File("src/test/java").list()) {
            String test = file.replace(".java", "");
            boolean isPromise = test.matches("Promise(0[1-9]|1[0-5])Test");
            if (test.endsWith("Test") && !isPromise && !readme.contains("`" + test + "`")) {
                checks.fault("does not tell of " + test);
            }
        }
        Matcher named = Pattern.compile("`(\\w+Test)`").matcher(readme);
        while (named.find()) {
            if (!new File("src/test/java/" + named.group(1) + ".java").exists()) {
                checks.fault("tells of " + named.group(1) + ", which is no test");
            }
        }
    }

    private static void same(String what, Set<String> told, Set<String> present) {
        if (!told.equals(present)) {
            checks.fault("the " + what + " are " + told + ", in the class they are " + present);
        }
    }
}
