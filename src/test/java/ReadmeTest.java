import java.io.IOException;
import java.lang.reflect.Method;
import java.nio.file.Files;
import java.nio.file.Path;
import java.util.HashMap;
import java.util.List;
import java.util.Map;
import java.util.regex.Matcher;
import java.util.regex.Pattern;
import java.util.stream.Stream;

/** The calls in README.md answer what README.md says, and it names every test. */
public final class ReadmeTest {
    private static final Path README = Path.of("README.md");
    private static final Path TESTS = Path.of("src", "test", "java");
    private static final Pattern CALL =
        Pattern.compile("shop\\.(\\w+)\\(([-0-9, ]*)\\); +// (-?\\w+)(:.*| *)");
    private static final Map<String, Long> NAMED = Map.of(
        "OK", (long) TemplateShop.OK, "SHAPE", (long) TemplateShop.SHAPE,
        "LARGE", (long) TemplateShop.LARGE, "BAD", (long) TemplateShop.BAD,
        "FULL", (long) TemplateShop.FULL, "NONE", TemplateShop.NONE);

    private static final Map<String, Method> METHODS = new HashMap<>();
    private static TemplateShop shop;
    private static int calls = 0;
    private static int wrong = 0;

    private static void wrongLine(int number, String line, String why) {
        wrong++;
        System.out.println("README.md, line " + number + ": " + line + "\n    " + why);
    }

    private static long call(String name, String arguments) throws ReflectiveOperationException {
        String[] parts = arguments.isBlank() ? new String[0] : arguments.split(",");
        Object[] given = new Object[parts.length];
        for (int k = 0; k < parts.length; k++) {
            given[k] = Integer.valueOf(parts[k].trim());
        }
        return ((Number) METHODS.get(name).invoke(shop, given)).longValue();
    }

    private static void javaLine(int number, String line) throws ReflectiveOperationException {
        if (line.isBlank()) {
            return;
        }
        if (line.equals("TemplateShop shop = new TemplateShop();")) {
            shop = new TemplateShop();
            return;
        }
        Matcher told = CALL.matcher(line);
        if (!told.matches() || !METHODS.containsKey(told.group(1)) || shop == null) {
            wrongLine(number, line, "is no call with an answer");
            return;
        }
        calls++;
        String due = told.group(3);
        long want = NAMED.containsKey(due) ? NAMED.get(due) : Long.parseLong(due);
        long got = call(told.group(1), told.group(2));
        if (got != want) {
            wrongLine(number, line, "answered " + got);
        }
    }

    private static void calls(List<String> lines) throws ReflectiveOperationException {
        boolean isJava = false;
        for (int k = 0; k < lines.size(); k++) {
            String line = lines.get(k);
            if (line.startsWith("```")) {
                isJava = line.equals("```java");
            } else if (isJava) {
                javaLine(k + 1, line);
            }
        }
    }

    private static void namesOfTests(List<String> lines) throws IOException {
        String text = String.join("\n", lines);
        try (Stream<Path> files = Files.list(TESTS)) {
            files.map(file -> file.getFileName().toString().replace(".java", ""))
                .filter(name -> !text.contains("- `" + name + "`:"))
                .forEach(name -> {
                    wrong++;
                    System.out.println("README.md does not tell of " + name);
                });
        }
    }

    public static void main(String[] args) throws IOException, ReflectiveOperationException {
        for (Method m : TemplateShop.class.getMethods()) {
            if (m.getDeclaringClass() == TemplateShop.class) {
                METHODS.put(m.getName(), m);
            }
        }
        List<String> lines = Files.readAllLines(README);
        calls(lines);
        namesOfTests(lines);
        for (String name : METHODS.keySet()) {
            if (lines.stream().noneMatch(line -> line.startsWith("shop." + name + "("))) {
                wrong++;
                System.out.println("README.md has no call of " + name);
            }
        }
        System.out.println(calls + " calls in README.md, " + wrong + " things wrong");
        if (wrong != 0) {
            System.exit(1);
        }
    }
}
