import java.io.IOException;
import java.lang.reflect.Method;
import java.lang.reflect.Modifier;
import java.nio.file.Files;
import java.nio.file.Path;
import java.util.regex.Matcher;
import java.util.regex.Pattern;
import java.util.stream.Stream;

/** README.md: its example answers as told there, and it names every call and every test. */
public final class ReadmeTest {
    private static final Path TESTS = Path.of("src/test/java");

    public static void main(String[] args) throws Exception {
        String readme = Files.readString(Path.of("README.md"));
        example(readme);
        callsAreNamed(readme);
        testsAreNamed(readme);
        Check.end("ReadmeTest");
    }

    private static void example(String readme) throws ReflectiveOperationException {
        String code = readme.substring(readme.indexOf("```java"), readme.indexOf("```\n", readme.indexOf("```java") + 7));
        Matcher text = Pattern.compile("String text = \"(\\w+)\";").matcher(code);
        Check.isTrue("the example has a text", text.find());
        ShutterTown town = Check.text(text.group(1));
        Matcher line = Pattern.compile("(?m)^town\\.(\\w+)\\(([^)]*)\\); *// (-?\\d+)\\b").matcher(code);
        int lines = 0;
        while (line.find()) {
            lines++;
            String call = line.group(1) + "(" + line.group(2) + ")";
            Check.due("README.md: " + call, answer(town, line.group(1), line.group(2)), Long.parseLong(line.group(3)));
        }
        Check.due("every call of the example is asked", lines, code.split("\ntown\\.").length - 1);
        Check.isTrue("there are some", lines > 0);
    }

    private static long answer(ShutterTown town, String name, String told) throws ReflectiveOperationException {
        Method method = named(name);
        String[] words = told.isEmpty() ? new String[0] : told.split(", *");
        Class<?>[] types = method.getParameterTypes();
        Object[] values = new Object[words.length];
        for (int at = 0; at < words.length; at++) {
            values[at] = types[at] == boolean.class ? (Object) Boolean.valueOf(words[at]) : Integer.valueOf(words[at]);
        }
        return ((Number) method.invoke(town, values)).longValue();
    }

    private static Method named(String name) throws NoSuchMethodException {
        for (Method method : ShutterTown.class.getDeclaredMethods()) {
            if (method.getName().equals(name)) {
                return method;
            }
        }
        throw new NoSuchMethodException(name);
    }

    private static void callsAreNamed(String readme) {
        for (Method method : ShutterTown.class.getDeclaredMethods()) {
            if (Modifier.isPublic(method.getModifiers())) {
                String row = "(?m)^\\| (`[^`]*`, )?`" + method.getName() + "\\(((\\w+)(, \\w+)*)?\\)`[^|]*\\| .* \\|$";
                Matcher found = Pattern.compile(row).matcher(readme);
                boolean named = found.find();
                Check.isTrue("README.md has " + method.getName(), named);
                int told = !named || found.group(2) == null ? 0 : found.group(2).split(",").length;
                Check.due("arguments of " + method.getName() + " there", told, method.getParameterCount());
            }
        }
    }

    private static void testsAreNamed(String readme) throws IOException {
        try (Stream<Path> files = Files.list(TESTS)) {
            files.map(file -> file.getFileName().toString()).filter(name -> name.endsWith("Test.java")).forEach(name ->
                Check.isTrue("README.md has " + name, readme.contains("`" + name.replace(".java", "") + "`")));
        }
        Check.isTrue("README.md says how to run them", readme.contains("\n.ci/run\n"));
    }
}
