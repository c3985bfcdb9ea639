import java.io.IOException;
import java.lang.reflect.Method;
import java.lang.reflect.Modifier;
import java.nio.file.Files;
import java.nio.file.Path;
import java.util.ArrayList;
import java.util.Arrays;
import java.util.HashSet;
import java.util.List;
import java.util.Set;
import java.util.regex.Matcher;
import java.util.regex.Pattern;
import java.util.stream.Stream;

/** README.md: each line of its example, that every call and every number is there, and every test. */
public final class ReadmeTest {
    private static final Pattern NEW = Pattern.compile("AngleNet net = new AngleNet\\(\\);.*");
    private static final Pattern CALL = Pattern.compile("net\\.(\\w+)\\(([-0-9, ]*)\\); +// (-?\\d+)(?: \\((\\w+)\\))?:.*");
    private static final Pattern NUMBER = Pattern.compile("\\| `([A-Z]+)` \\| (-\\d+) \\|");
    private static final Check CHECK = new Check("ReadmeTest");

    public static void main(String[] args) throws IOException, ReflectiveOperationException {
        List<String> lines = Files.readAllLines(Path.of("README.md"));
        checkExample(lines);
        checkNumbers(lines);
        checkCalls(lines);
        checkTests(lines);
        CHECK.end();
    }

    private static void checkExample(List<String> lines) throws ReflectiveOperationException {
        AngleNet net = null;
        boolean inside = false;
        Set<String> asked = new HashSet<>();
        for (String line : lines) {
            Matcher call = CALL.matcher(line);
            if (line.startsWith("```")) {
                inside = line.equals("```java");
            } else if (inside && NEW.matcher(line).matches()) {
                net = new AngleNet();
            } else if (inside && net != null && call.matches()) {
                ask(net, line, call);
                asked.add(call.group(1));
            } else {
                CHECK.holds("a line of the example that can be asked: " + line, !inside);
            }
        }
        for (Method method : face()) {
            CHECK.holds("the example has " + method.getName(), asked.contains(method.getName()));
        }
    }

    private static void ask(AngleNet net, String line, Matcher call) throws ReflectiveOperationException {
        List<Integer> numbers = new ArrayList<>();
        for (String number : call.group(2).split(",")) {
            if (!number.isBlank()) {
                numbers.add(Integer.parseInt(number.trim()));
            }
        }
        Class<?>[] types = new Class<?>[numbers.size()];
        Arrays.fill(types, int.class);
        Object got = AngleNet.class.getMethod(call.group(1), types).invoke(net, numbers.toArray());
        CHECK.due(line, (Integer) got, Integer.parseInt(call.group(3)));
        if (call.group(4) != null) {
            CHECK.due(line + " by name", constant(call.group(4)), Integer.parseInt(call.group(3)));
        }
    }

    private static int constant(String name) throws ReflectiveOperationException {
        return AngleNet.class.getField(name).getInt(null);
    }

    /** The table of refused answers has them in their order, and no other ones. */
    private static void checkNumbers(List<String> lines) throws ReflectiveOperationException {
        List<String> names = new ArrayList<>();
        for (String line : lines) {
            Matcher number = NUMBER.matcher(line);
            if (number.matches()) {
                names.add(number.group(1));
                CHECK.due(line, constant(number.group(1)), Integer.parseInt(number.group(2)));
            }
        }
        CHECK.holds("the table of numbers: " + names, names.equals(List.of("UNKNOWN", "OUTSIDE", "STATE", "FULL", "NO")));
        CHECK.holds("NONE is told", lines.stream().anyMatch(line -> line.startsWith("`NONE`, " + AngleNet.NONE + ",")));
    }

    private static void checkCalls(List<String> lines) {
        int rows = 0;
        for (Method method : face()) {
            Pattern row = Pattern.compile("\\| `" + method.getName() + "\\((\\w*(?:, \\w+)*)\\)` \\| .*");
            for (String line : lines) {
                Matcher found = row.matcher(line);
                if (found.matches()) {
                    rows++;
                    int names = found.group(1).isEmpty() ? 0 : found.group(1).split(",").length;
                    CHECK.due("numbers that " + method.getName() + "() takes", names, method.getParameterCount());
                }
            }
        }
        CHECK.due("rows of the table of calls", rows, face().size());
    }

    private static void checkTests(List<String> lines) throws IOException {
        try (Stream<Path> files = Files.list(Path.of("src/test/java"))) {
            for (Path file : files.toList()) {
                String name = file.getFileName().toString().replace(".java", "");
                CHECK.holds("a row for " + name, !name.endsWith("Test")
                    || lines.stream().anyMatch(line -> line.startsWith("| " + name + " |")));
            }
        }
    }

    private static List<Method> face() {
        return Stream.of(AngleNet.class.getDeclaredMethods())
            .filter(method -> Modifier.isPublic(method.getModifiers())).toList();
    }
}
