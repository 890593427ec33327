import java.io.IOException;
import java.lang.reflect.Method;
import java.lang.reflect.Modifier;
import java.nio.file.Files;
import java.nio.file.Path;
import java.util.TreeMap;
import java.util.regex.Matcher;
import java.util.regex.Pattern;

/** README.md tells each call of the face, and its examples answer what it says. */
public final class ReadmeTest extends Checks {
    private static final Pattern MAKES = Pattern.compile("FewLooks x = new FewLooks\\(\\);");
    private static final Pattern EXAMPLE = Pattern.compile("x\\.(\\w+)\\(([^)]*)\\);\\s+// (-?\\d+)\\b.*");

    private static TreeMap<String, Method> calls() {
        TreeMap<String, Method> calls = new TreeMap<>();
        for (Method method : FewLooks.class.getDeclaredMethods()) {
            if (Modifier.isPublic(method.getModifiers())) {
                calls.put(method.getName(), method);
            }
        }
        return calls;
    }

    private static Object[] arguments(String text) {
        String[] parts = text.split(", ");
        Object[] arguments = new Object[parts.length];
        for (int i = 0; i < parts.length; i++) {
            boolean isWord = parts[i].equals("true") || parts[i].equals("false");
            arguments[i] = isWord ? (Object) Boolean.valueOf(parts[i]) : (Object) Integer.valueOf(parts[i]);
        }
        return arguments;
    }

    private static void examples(String readme) throws ReflectiveOperationException {
        int from = readme.indexOf("```java\n") + "```java\n".length();
        String block = readme.substring(from, readme.indexOf("```", from));
        TreeMap<String, Method> calls = calls();
        FewLooks x = new FewLooks();
        int examples = 0;
        for (String line : block.split("\n")) {
            Matcher example = EXAMPLE.matcher(line);
            if (example.matches() && calls.containsKey(example.group(1))) {
                Number answer = (Number) calls.get(example.group(1)).invoke(x, arguments(example.group(2)));
                due("README.md: " + line, answer.longValue(), Long.parseLong(example.group(3)));
                examples++;
            } else {
                boolean known = line.isEmpty() || line.startsWith("//") || MAKES.matcher(line).matches();
                due("README.md: a line that is an example: " + line, known, true);
            }
        }
        due("README.md has examples", examples > 0, true);
    }

    private static void everyCallIsTold(String readme) {
        for (Method method : calls().values()) {
            Pattern told = Pattern.compile("(?m)^\\| `" + method.getName() + "\\(([^)]*)\\)` \\|");
            Matcher row = told.matcher(readme);
            due("README.md tells " + method.getName(), row.find(), true);
            due("README.md tells " + method.getName() + " once", row.find(), false);
        }
    }

    private static void testsAreTold(String readme) throws IOException {
        due("README.md tells .ci/run", readme.contains("\n.ci/run\n"), true);
        try (var files = Files.list(Path.of("src/test/java"))) {
            for (Path file : files.sorted().toList()) {
                String name = file.getFileName().toString().replace(".java", "");
                due("README.md tells " + name, readme.contains("- `" + name + "`: "), true);
            }
        }
    }

    public static void main(String[] args) throws IOException, ReflectiveOperationException {
        String readme = Files.readString(Path.of("README.md"));
        examples(readme);
        everyCallIsTold(readme);
        testsAreTold(readme);
        end("README.md is as the class is");
    }
}
