import java.io.IOException;
import java.lang.reflect.Array;
import java.lang.reflect.Executable;
import java.lang.reflect.Field;
import java.lang.reflect.Method;
import java.lang.reflect.Modifier;
import java.nio.file.Files;
import java.nio.file.Path;
import java.util.ArrayList;
import java.util.HashSet;
import java.util.IdentityHashMap;
import java.util.List;
import java.util.Map;
import java.util.Set;
import java.util.TreeMap;
import java.util.TreeSet;
import java.util.regex.Matcher;
import java.util.regex.Pattern;
import java.util.stream.Stream;

/** Rules 1, 2, 5, 8, 9, 11 and 12 of LANGUAGE.md, as far as the class and its text show them. */
public final class RulesTest {
    private static final int MOST_CLASSES = 12, MOST_FIELDS = 20, MOST_PARAMETERS = 7, MOST_LINES = 60, DEEPEST = 8;
    /** What the whole run has for all its objects: with 600,000 and 7.3 million some thousands fit. */
    private static final int MOST_OBJECTS = 25, MOST_ELEMENTS = 1500;
    /** A method or a constructor begins so: it is inside the class, or inside a class inside it. */
    private static final Pattern HEAD = Pattern.compile("( {4}| {8})(?:[\\w\\[\\]]+ )*(\\w+)\\([^;]*\\) \\{");
    private static final Pattern NAME = Pattern.compile("(\\w+)\\(");
    private static final Pattern COUNTED = Pattern.compile("\\s*for \\(int \\w+ = [^;]+; [^;]*\\w+ <=? [^;]+; \\w+\\+\\+\\) \\{");
    private static final Check CHECK = new Check("RulesTest");

    public static void main(String[] args) throws IOException, ReflectiveOperationException {
        Set<String> names = new TreeSet<>();
        List<Class<?>> classes = new ArrayList<>(List.of(AngleNet.class.getDeclaredClasses()));
        checkClassesInside(classes);
        classes.add(AngleNet.class);
        for (Class<?> one : classes) {
            checkFields(one);
            checkParameters(one);
            names.add(one.getSimpleName());
            for (Method method : one.getDeclaredMethods()) {
                names.add(method.getName());
            }
        }
        List<String> lines = Files.readAllLines(Path.of(args.length > 0 ? args[0] : "src/main/java/AngleNet.java"));
        checkLoops(lines);
        Map<String, List<String>> methods = methods(lines);
        CHECK.holds("each method is found in the text: " + names, methods.keySet().equals(names));
        checkMethods(methods);
        checkRoom();
        CHECK.end();
    }

    private static void checkClassesInside(List<Class<?>> inside) {
        CHECK.holds("not too many classes: " + inside, inside.size() < MOST_CLASSES);
        Set<String> face = new HashSet<>();
        for (Method method : AngleNet.class.getMethods()) {
            face.add(method.getName());
        }
        for (Class<?> one : inside) {
            CHECK.holds(one + " is static", Modifier.isStatic(one.getModifiers()));
            CHECK.holds(one + " is private or package-visible",
                !Modifier.isPublic(one.getModifiers()) && !Modifier.isProtected(one.getModifiers()));
            CHECK.due("classes inside " + one, one.getDeclaredClasses().length, 0);
            for (Method method : one.getDeclaredMethods()) {
                CHECK.holds(method + " has a name of its own", !face.contains(method.getName()));
            }
        }
    }

    private static void checkFields(Class<?> one) {
        int fields = 0;
        for (Field field : one.getDeclaredFields()) {
            if (Modifier.isStatic(field.getModifiers())) {
                CHECK.holds(field + " is a constant", Modifier.isFinal(field.getModifiers()) && field.getType() == int.class);
            } else {
                fields++;
            }
        }
        CHECK.holds("fields of " + one + ": " + fields, fields <= MOST_FIELDS);
    }

    private static void checkParameters(Class<?> one) {
        for (Executable it : Stream.of(one.getDeclaredMethods(), one.getDeclaredConstructors())
            .flatMap(Stream::of).toList()) {
            CHECK.holds("parameters of " + it, it.getParameterCount() <= MOST_PARAMETERS);
            CHECK.due("exceptions of " + it, it.getExceptionTypes().length, 0);
        }
    }

    private static void checkLoops(List<String> lines) {
        int loops = 0;
        for (String line : lines) {
            if (line.trim().startsWith("for (")) {
                loops++;
                CHECK.holds("a loop that counts up to a bound: " + line, COUNTED.matcher(line).matches());
            }
            CHECK.holds("no loop of another kind: " + line, !line.contains("while (") && !line.trim().startsWith("do {"));
        }
        CHECK.holds("there are loops", loops > 20);
    }

    /** The lines of all methods and constructors; those of one name, in whichever class, together. */
    private static Map<String, List<String>> methods(List<String> lines) {
        Map<String, List<String>> found = new TreeMap<>();
        for (int i = 0; i < lines.size(); i++) {
            Matcher head = HEAD.matcher(lines.get(i));
            if (head.matches()) {
                int first = i;
                while (!lines.get(i).equals(head.group(1) + "}")) {
                    i++;
                }
                CHECK.holds(head.group(2) + "() is short", i - first < MOST_LINES);
                found.computeIfAbsent(head.group(2), name -> new ArrayList<>()).addAll(lines.subList(first + 1, i));
            }
        }
        return found;
    }

    private static void checkMethods(Map<String, List<String>> methods) {
        Map<String, Set<String>> calls = new TreeMap<>();
        for (Map.Entry<String, List<String>> method : methods.entrySet()) {
            boolean constructor = Character.isUpperCase(method.getKey().charAt(0));
            Set<String> called = new TreeSet<>();
            for (String line : method.getValue()) {
                // What is made after the constructor would be made at each call.
                CHECK.holds("nothing new in " + method.getKey() + "(): " + line, constructor || !line.contains("new "));
                Matcher name = NAME.matcher(line);
                while (name.find()) {
                    called.add(name.group(1));
                }
            }
            called.removeAll(Set.of("if", "for", "switch", "while"));
            calls.put(method.getKey(), called);
        }
        for (String method : calls.keySet()) {
            int depth = depth(calls, method, 1);
            CHECK.holds("calls from " + method + "() go " + depth + " deep", depth <= DEEPEST);
        }
    }

    /** A method that calls itself, by whichever way, is deeper than all bounds. */
    private static int depth(Map<String, Set<String>> calls, String method, int above) {
        int deepest = above;
        if (above <= DEEPEST + 1) {
            for (String called : calls.getOrDefault(method, Set.of())) {
                deepest = Math.max(deepest, depth(calls, called, above + 1));
            }
        }
        return deepest;
    }

    private static void checkRoom() throws ReflectiveOperationException {
        AngleNet net = new AngleNet();
        int[] first = room(net);
        CHECK.holds("objects and arrays of a net: " + first[0], first[0] <= MOST_OBJECTS);
        CHECK.holds("fields and elements of a net: " + first[1], first[1] <= MOST_ELEMENTS);
        net.posts(9);
        for (int call = 0; call < 60; call++) {
            net.third(call % 9, call / 9 % 9, call * 5 % 9);
            net.tell(call % 9, 100 + call);
            net.turn(call % 9, call / 9);
            net.bar(call % 3);
            net.best();
            net.undo();
        }
        CHECK.same("room of a net in use", room(net), first);
    }

    /** How many objects and arrays, and how many fields and elements, are reached from one. */
    private static int[] room(Object from) throws ReflectiveOperationException {
        Map<Object, Boolean> seen = new IdentityHashMap<>();
        List<Object> open = new ArrayList<>(List.of(from));
        int elements = 0;
        for (int next = 0; next < open.size(); next++) {
            Object one = open.get(next);
            if (seen.put(one, true) == null) {
                elements += one.getClass().isArray() ? Array.getLength(one) : fieldsOf(one, open);
            }
        }
        return new int[] {seen.size(), elements};
    }

    private static int fieldsOf(Object one, List<Object> open) throws ReflectiveOperationException {
        int fields = 0;
        for (Field field : one.getClass().getDeclaredFields()) {
            if (!Modifier.isStatic(field.getModifiers())) {
                fields++;
                field.setAccessible(true);
                if (!field.getType().isPrimitive() && field.get(one) != null) {
                    open.add(field.get(one));
                }
            }
        }
        return fields;
    }
}
