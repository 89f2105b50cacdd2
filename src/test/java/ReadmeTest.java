import java.io.IOException;
import java.lang.reflect.InvocationTargetException;
import java.lang.reflect.Method;
import java.lang.reflect.Modifier;
import java.nio.file.Files;
import java.nio.file.Path;
import java.util.ArrayList;
import java.util.HashMap;
import java.util.List;
import java.util.Map;
import java.util.Set;
import java.util.TreeSet;
import java.util.regex.Matcher;
import java.util.regex.Pattern;

/** The calls that README.md shows give the answers that it shows; it is run from the project's directory. */
public final class ReadmeTest {
    private static final Due due = new Due("README.md");
    private static final String NEW_OBJECT = "ClassStarter x = new ClassStarter();";
    private static final Pattern CALL = Pattern.compile(
            "(?:(int|long) (\\w+) = )?x\\.(\\w+)\\(([^()]*)\\); +// (-?\\d+|REFUSED|FULL|NONE): \\S.*");

    private final Map<String, Integer> variables = new HashMap<>();
    private ClassStarter x;

    private ReadmeTest() {
    }

    public static void main(String[] args) throws IOException, ReflectiveOperationException {
        List<String> lines = Files.readAllLines(Path.of("README.md"));
        List<List<String>> examples = examples(lines);
        due.holds("there are examples", !examples.isEmpty());
        Set<String> shown = new TreeSet<>();
        for (List<String> example : examples) {
            new ReadmeTest().follow(example, shown);
        }
        due.same("the calls of the face that are shown: they", shown.toString(), face().toString());
        due.end();
    }

    private static List<List<String>> examples(List<String> lines) {
        List<List<String>> examples = new ArrayList<>();
        boolean isInside = false;
        for (String line : lines) {
            if (line.startsWith("```")) {
                isInside = line.equals("```java");
                if (isInside) {
                    examples.add(new ArrayList<>());
                }
            } else if (isInside) {
                examples.get(examples.size() - 1).add(line);
            }
        }
        return examples;
    }

    private static Set<String> face() {
        Set<String> names = new TreeSet<>();
        for (Method method : ClassStarter.class.getDeclaredMethods()) {
            if (Modifier.isPublic(method.getModifiers())) {
                names.add(method.getName());
            }
        }
        return names;
    }

    private void follow(List<String> example, Set<String> shown) throws ReflectiveOperationException {
        for (String line : example) {
            Matcher call = CALL.matcher(line);
            if (line.equals(NEW_OBJECT)) {
                x = new ClassStarter();
            } else if (call.matches() && x != null) {
                shown.add(call.group(3));
                look(line, call);
            } else {
                due.holds("is read as a call with its answer: " + line, line.isEmpty() || line.startsWith("// "));
            }
        }
    }

    private void look(String line, Matcher call) throws ReflectiveOperationException {
        Method method = methodNamed(call.group(3));
        due.holds("names a call of the face: " + line, method != null);
        if (method == null) {
            return;
        }
        long got = answerOf(method, call.group(4));
        due.is(line, got, answerNamed(call.group(5)));
        if (call.group(2) != null) {
            due.same("the type in: " + line, call.group(1), method.getReturnType().getName());
            variables.put(call.group(2), (int) got);
        }
    }

    private static Method methodNamed(String name) {
        for (Method method : ClassStarter.class.getMethods()) {
            if (method.getDeclaringClass() == ClassStarter.class && method.getName().equals(name)) {
                return method;
            }
        }
        return null;
    }

    private long answerOf(Method method, String operands) throws ReflectiveOperationException {
        String[] words = operands.isEmpty() ? new String[0] : operands.split(", ");
        Class<?>[] types = method.getParameterTypes();
        due.is("operands of " + method.getName(), words.length, types.length);
        Object[] values = new Object[types.length];
        for (int k = 0; k < types.length; k++) {
            values[k] = types[k] == boolean.class ? (Object) truthOf(words[k]) : (Object) intOf(words[k]);
        }
        try {
            return ((Number) method.invoke(x, values)).longValue();
        } catch (InvocationTargetException thrown) {
            throw new IllegalStateException(method.getName() + " threw", thrown.getCause());
        }
    }

    private static boolean truthOf(String word) {
        due.holds("is true or false: " + word, word.equals("true") || word.equals("false"));
        return word.equals("true");
    }

    private int intOf(String word) {
        Integer value = variables.get(word);
        return value != null ? value : Integer.parseInt(word);
    }

    private static long answerNamed(String word) {
        switch (word) {
            case "REFUSED":
                return ClassStarter.REFUSED;
            case "FULL":
                return ClassStarter.FULL;
            case "NONE":
                return ClassStarter.NONE;
            default:
                return Long.parseLong(word);
        }
    }
}
