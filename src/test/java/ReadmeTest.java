import java.io.IOException;
import java.lang.reflect.Method;
import java.lang.reflect.Modifier;
import java.nio.file.Files;
import java.nio.file.Path;
import java.util.List;
import java.util.regex.Matcher;
import java.util.regex.Pattern;

/** README.md is true: each of its calls, on one object from the first to the last, answers what stands behind it. */
public final class ReadmeTest {
    private static final Path README = Path.of("README.md");
    private static final Pattern CALL =
        Pattern.compile("fount\\.(\\w+)\\(([^)]*)\\);\\s*// (true|false|NONE|-?\\d+)(:.*)?");

    private static int wrong;
    private static int answers;

    public static void main(String[] args) throws IOException, ReflectiveOperationException {
        List<String> lines = Files.readAllLines(README);
        DevilsFount fount = new DevilsFount();
        boolean inside = false;
        for (String line : lines) {
            if (line.startsWith("```")) {
                inside = line.equals("```java");
            } else if (inside && line.startsWith("fount.")) {
                check(fount, line);
            }
        }
        namesEachMethod(String.join("\n", lines));
        System.out.println(answers + " answers of README.md, " + wrong + " wrong");
        if (wrong != 0 || answers == 0) {
            System.exit(1);
        }
    }

    private static void fail(String told) {
        wrong++;
        System.out.println("README.md: " + told);
    }

    private static void check(DevilsFount fount, String line) throws ReflectiveOperationException {
        Matcher call = CALL.matcher(line);
        if (!call.matches()) {
            fail("no answer stands behind " + line);
            return;
        }
        answers++;
        String due = call.group(3).equals("NONE") ? String.valueOf(DevilsFount.NONE) : call.group(3);
        String got = String.valueOf(answer(fount, call.group(1), call.group(2)));
        if (!got.equals(due)) {
            fail(line + " .. but the answer is " + got);
        }
    }

    private static Object answer(DevilsFount fount, String name, String told) throws ReflectiveOperationException {
        String[] values = told.isEmpty() ? new String[0] : told.split(", ");
        Class<?>[] types = new Class<?>[values.length];
        Object[] arguments = new Object[values.length];
        for (int i = 0; i < values.length; i++) {
            boolean so = values[i].equals("true") || values[i].equals("false");
            types[i] = so ? boolean.class : int.class;
            arguments[i] = so ? (Object) Boolean.valueOf(values[i]) : (Object) Long.decode(values[i]).intValue();
        }
        return DevilsFount.class.getMethod(name, types).invoke(fount, arguments);
    }

    private static void namesEachMethod(String readme) {
        for (Method method : DevilsFount.class.getDeclaredMethods()) {
            if (Modifier.isPublic(method.getModifiers()) && !readme.contains("`" + method.getName() + "(")) {
                fail("it does not name " + method.getName());
            }
        }
    }
}
