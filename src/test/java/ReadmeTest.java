import java.io.IOException;
import java.lang.reflect.InvocationTargetException;
import java.lang.reflect.Method;
import java.lang.reflect.Modifier;
import java.nio.charset.StandardCharsets;
import java.nio.file.DirectoryStream;
import java.nio.file.Files;
import java.nio.file.Path;
import java.util.regex.Matcher;
import java.util.regex.Pattern;

/** README.md as it stands: its example's calls answer what stands behind them, and it names every call and test. */
public final class ReadmeTest {
    private static final Path README = Path.of("README.md");
    private static final Path TESTS = Path.of("src", "test", "java");
    private static final Pattern CALL = Pattern.compile("r\\.(\\w+)\\(([^)]*)\\);\\s+// ([-\\w]+)(:.*)?");

    public static void main(String[] args) throws IOException, IllegalAccessException {
        String page = Files.readString(README, StandardCharsets.ISO_8859_1);
        example(page);
        for (Method m : StickRace.class.getDeclaredMethods()) {
            if (Modifier.isPublic(m.getModifiers())) {
                Checks.due("README.md names " + m.getName(), page.contains("`" + m.getName() + "`"), true);
            }
        }
        tests(page);
        Checks.finish("ReadmeTest");
    }

    private static void example(String page) throws IllegalAccessException {
        Matcher block = Pattern.compile("(?s)```java\n(.*?)```").matcher(page);
        Checks.due("README.md has an example", block.find(), true);
        StickRace r = new StickRace();
        for (String line : block.group(1).split("\n")) {
            if (line.startsWith("r.")) {
                Matcher call = CALL.matcher(line);
                boolean told = call.matches();
                Checks.due("a call with its answer: " + line, told, true);
                if (told) {
                    Checks.due(line + " (1: yes)", ask(r, call.group(1), call.group(2)).equals(call.group(3)), true);
                }
            }
        }
    }

    private static String ask(StickRace r, String name, String arguments) throws IllegalAccessException {
        for (Method m : StickRace.class.getDeclaredMethods()) {
            if (m.getName().equals(name)) {
                try {
                    return String.valueOf(m.invoke(r, numbers(arguments, m.getParameterTypes())));
                } catch (InvocationTargetException e) {
                    return e.getCause().getClass().getSimpleName();
                }
            }
        }
        return "no such call";
    }

    private static Object[] numbers(String arguments, Class<?>[] types) {
        String[] texts = arguments.isEmpty() ? new String[0] : arguments.split(", ");
        Object[] numbers = new Object[texts.length];
        for (int i = 0; i < texts.length; i++) {
            long n = Long.decode(texts[i].replace("L", ""));
            if (i < types.length && types[i] == long.class) {
                numbers[i] = n;
            } else {
                numbers[i] = (int) n;
            }
        }
        return numbers;
    }

    private static void tests(String page) throws IOException {
        try (DirectoryStream<Path> files = Files.newDirectoryStream(TESTS, "*.java")) {
            for (Path file : files) {
                String name = file.getFileName().toString().replace(".java", "");
                Checks.due("README.md names " + name, page.contains("`" + name + "`"), true);
            }
        }
        Matcher named = Pattern.compile("`(\\w+Test)`").matcher(page);
        while (named.find()) {
            Checks.due("there is a " + named.group(1), Files.exists(TESTS.resolve(named.group(1) + ".java")), true);
        }
    }
}
