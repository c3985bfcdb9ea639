import java.io.IOException;
import java.lang.reflect.Constructor;
import java.lang.reflect.Field;
import java.lang.reflect.Method;
import java.lang.reflect.Modifier;
import java.nio.file.Files;
import java.nio.file.Path;
import java.util.Arrays;
import java.util.Set;
import java.util.TreeSet;

/** The public face of the document, no member beside it, and rules of LANGUAGE.md that a text shows. */
public final class FaceTest {
    private static final String[] METHODS = {"posts 1", "third 3", "at 1", "side 2", "arrow 2", "turn 2",
        "about 2", "told 1", "straight 1", "least 1", "tell 2", "can 0", "angle 1", "best 0", "bar 1",
        "opposite 2", "fit 0", "undo 0", "redo 0"};
    private static final String[] CONSTANTS = {"NONE", "UNKNOWN", "OUTSIDE", "STATE", "FULL", "NO"};
    private static final int[] VALUES = {-6, -1, -2, -3, -4, -5};
    private static final String[] FORBIDDEN = {"->", "::", "catch", "finally", "synchronized", "assert ",
        "static {", "public class", "protected ", "package ", "System.out", "Random", "while ("};

    private static final Check CHECK = new Check("FaceTest");

    public static void main(String[] args) throws IOException, ReflectiveOperationException {
        checkConstants();
        checkMembers();
        checkText(Path.of(args.length > 0 ? args[0] : "src/main/java/AngleNet.java"));
        CHECK.end();
    }

    private static void checkConstants() throws ReflectiveOperationException {
        for (int i = 0; i < CONSTANTS.length; i++) {
            Field field = AngleNet.class.getField(CONSTANTS[i]);
            CHECK.due(CONSTANTS[i], field.getInt(null), VALUES[i]);
        }
    }

    private static void checkMembers() {
        CHECK.holds("the class is public and final", Modifier.isPublic(AngleNet.class.getModifiers())
            && Modifier.isFinal(AngleNet.class.getModifiers()));
        Set<String> seen = new TreeSet<>();
        Set<String> hidden = new TreeSet<>();
        for (Method method : AngleNet.class.getDeclaredMethods()) {
            if (Modifier.isPrivate(method.getModifiers())) {
                hidden.add(method.getName());
            } else {
                seen.add(method.getName() + " " + method.getParameterCount());
                CHECK.holds(method + " is as told", Modifier.isPublic(method.getModifiers())
                    && !Modifier.isStatic(method.getModifiers()) && method.getReturnType() == int.class
                    && Arrays.stream(method.getParameterTypes()).allMatch(type -> type == int.class));
            }
        }
        CHECK.holds("just the methods of the face: " + seen, seen.equals(new TreeSet<>(Arrays.asList(METHODS))));
        for (String method : METHODS) {
            CHECK.holds("no private " + method, !hidden.contains(method.split(" ")[0]));
        }
        Set<String> fields = new TreeSet<>();
        for (Field field : AngleNet.class.getDeclaredFields()) {
            if (!Modifier.isPrivate(field.getModifiers())) {
                fields.add(field.getName());
            }
        }
        CHECK.holds("just the constants of the face: " + fields,
            fields.equals(new TreeSet<>(Arrays.asList(CONSTANTS))));
        Constructor<?>[] constructors = AngleNet.class.getDeclaredConstructors();
        CHECK.due("constructors", constructors.length, 1);
        CHECK.holds("it is public and takes nothing", Modifier.isPublic(constructors[0].getModifiers())
            && constructors[0].getParameterCount() == 0);
    }

    private static void checkText(Path file) throws IOException {
        String text = Files.readString(file);
        for (String word : FORBIDDEN) {
            CHECK.holds("no '" + word + "' in the text", !text.contains(word));
        }
        for (String line : text.split("\n")) {
            CHECK.holds("a line without import of more: " + line,
                !line.startsWith("import") || line.equals("import java.util.Arrays;"));
        }
        CHECK.holds("signs 1 to 127 alone", text.chars().allMatch(sign -> sign < 128));
    }
}
