import java.io.IOException;
import java.lang.reflect.Method;
import java.lang.reflect.Modifier;
import java.nio.file.Files;
import java.nio.file.Path;
import java.util.ArrayList;
import java.util.List;
import java.util.Set;
import java.util.TreeSet;
import java.util.regex.Matcher;
import java.util.regex.Pattern;

/**
 * Makes the calls of README.md, which are one run on one object, and compares each answer with the one
 * that stands behind it. It is run from the directory of README.md, as .ci/run does.
 */
public final class ReadmeTest {
    private static final Pattern CALL = Pattern.compile("x\\.(\\w+)\\((.*)\\); +// (-?\\w+).*");
    private static final String NEW_OBJECT = "RadiusDecoder x = new RadiusDecoder();";
    private static int wrong = 0;

    public static void main(String[] args) throws IOException, ReflectiveOperationException {
        RadiusDecoder x = null;
        Set<String> called = new TreeSet<>();
        for (String line : examples(Files.readAllLines(Path.of("README.md")))) {
            Matcher call = CALL.matcher(line);
            if (line.equals(NEW_OBJECT)) {
                x = new RadiusDecoder();
            } else if (x == null || !call.matches()) {
                fault("no example can be read in: " + line);
            } else {
                called.add(call.group(1));
                compare(line, answer(x, call.group(1), call.group(2)), call.group(3));
            }
        }
        for (Method method : RadiusDecoder.class.getDeclaredMethods()) {
            if (Modifier.isPublic(method.getModifiers()) && !called.contains(method.getName())) {
                fault("README.md has no example of " + method.getName());
            }
        }
        System.out.println(wrong == 0 ? "all answers are as due" : wrong + " things are not as due");
        if (wrong != 0) {
            System.exit(1);
        }
    }

    private static void fault(String text) {
        wrong++;
        System.out.println(text);
    }

    /** The lines of the blocks that are marked as Java. */
    private static List<String> examples(List<String> lines) {
        List<String> result = new ArrayList<>();
        boolean inside = false;
        for (String line : lines) {
            if (line.startsWith("```")) {
                inside = line.equals("```java");
            } else if (inside) {
                result.add(line);
            }
        }
        return result;
    }

    private static Object answer(RadiusDecoder x, String name, String arguments)
            throws ReflectiveOperationException {
        String[] texts = arguments.split(", ");
        Class<?>[] types = new Class<?>[texts.length];
        Object[] values = new Object[texts.length];
        for (int i = 0; i < texts.length; i++) {
            boolean truth = texts[i].equals("true") || texts[i].equals("false");
            types[i] = truth ? boolean.class : int.class;
            values[i] = truth ? (Object) Boolean.valueOf(texts[i]) : (Object) Integer.valueOf(texts[i]);
        }
        return RadiusDecoder.class.getMethod(name, types).invoke(x, values);
    }

    private static void compare(String line, Object got, String told) {
        String due = switch (told) {
            case "BAD" -> "-1";
            case "NONE" -> "-2";
            case "MANY" -> "-3";
            case "LOOSE" -> "-4";
            default -> told;
        };
        if (!got.toString().equals(due)) {
            fault(line + " answered " + got);
        }
    }
}
