import java.io.IOException;
import java.lang.reflect.Method;
import java.nio.file.Files;
import java.nio.file.Path;
import java.util.List;
import java.util.regex.Matcher;
import java.util.regex.Pattern;
import java.util.stream.Stream;

/** Every call in README.md's examples answers what the comment behind it begins with, and every test is named there. */
public final class ReadmeTest {
    private static final String MAKES = "SwitchedModules x = new SwitchedModules();";
    private static final Pattern CALL = Pattern.compile("x\\.(\\w+)\\(([-0-9, ]*)\\); +// (true|false|-?\\d+)(:.*)?");
    private static final Due DUE = new Due();

    public static void main(String[] args) throws IOException, ReflectiveOperationException {
        List<String> lines = Files.readAllLines(Path.of("README.md"));
        examples(lines);
        testsAreNamed(String.join("\n", lines));
        DUE.end();
    }

    private static void examples(List<String> lines) throws ReflectiveOperationException {
        SwitchedModules x = null;
        boolean inside = false;
        int examples = 0;
        for (String line : lines) {
            if (line.startsWith("```")) {
                inside = line.equals("```java");
                examples += inside ? 1 : 0;
                x = null;
            } else if (inside && line.equals(MAKES)) {
                x = new SwitchedModules();
            } else if (inside && !line.isEmpty()) {
                example(x, line);
            }
        }
        DUE.is("examples", examples, 2);
    }

    private static void example(SwitchedModules x, String line) throws ReflectiveOperationException {
        Matcher call = CALL.matcher(line);
        boolean read = call.matches();
        DUE.is("README.md has a call and its answer in: " + line, read && x != null, true);
        if (read && x != null) {
            DUE.same("README.md: " + line, answer(x, call.group(1), call.group(2)), call.group(3));
        }
    }

    private static String answer(SwitchedModules x, String name, String list) throws ReflectiveOperationException {
        String[] texts = list.isEmpty() ? new String[0] : list.split(", ");
        Object[] arguments = new Object[texts.length];
        Class<?>[] types = new Class<?>[texts.length];
        for (int i = 0; i < texts.length; i++) {
            arguments[i] = Integer.valueOf(texts[i]);
            types[i] = int.class;
        }
        Method method = SwitchedModules.class.getMethod(name, types);
        return String.valueOf(method.invoke(x, arguments));
    }

    private static void testsAreNamed(String readme) throws IOException {
        try (Stream<Path> files = Files.list(Path.of("src/test/java"))) {
            files.map(file -> file.getFileName().toString().replace(".java", "")).filter(name -> name.endsWith("Test"))
                .forEach(name -> DUE.is("README.md names " + name, readme.contains("| `" + name + "` |"), true));
        }
    }
}
