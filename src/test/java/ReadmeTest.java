import java.io.IOException;
import java.lang.reflect.InvocationTargetException;
import java.lang.reflect.Method;
import java.lang.reflect.Modifier;
import java.nio.file.Files;
import java.nio.file.Path;
import java.util.List;
import java.util.regex.Matcher;
import java.util.regex.Pattern;

/** The examples of README.md, made by what stands there, so that the page cannot tell what the class does not do. */
public final class ReadmeTest {
    private static final Pattern CALL = Pattern.compile("x\\.(\\w+)\\((.*)\\);\\s+// (-?\\d+|BAD|NO|FULL|NONE)(:.*)?");
    private static final String NEW = "FractionRun x = new FractionRun();";

    private static int wrong = 0;
    private static int calls = 0;

    public static void main(String[] args) throws IOException, ReflectiveOperationException {
        List<String> page = Files.readAllLines(Path.of("README.md"));
        runExamples(page);
        nameEveryCall(String.join("\n", page));
        if (calls == 0) {
            tell("README.md has no example");
        }
        System.out.println(wrong == 0 ? calls + " calls of README.md answer as it says" : wrong + " faults in README.md");
        System.exit(wrong == 0 ? 0 : 1);
    }

    private static void tell(String fault) {
        wrong++;
        System.out.println(fault);
    }

    private static void runExamples(List<String> page) throws ReflectiveOperationException {
        boolean inside = false;
        FractionRun x = null;
        for (String line : page) {
            if (line.startsWith("```")) {
                inside = line.equals("```java");
                x = null;
            } else if (inside && line.equals(NEW)) {
                x = new FractionRun();
            } else if (inside) {
                runLine(x, line);
            }
        }
    }

    private static void runLine(FractionRun x, String line) throws ReflectiveOperationException {
        Matcher m = CALL.matcher(line);
        if (x == null || !m.matches()) {
            tell("not to be read: " + line);
            return;
        }
        calls++;
        int got = answer(x, m.group(1), m.group(2));
        int want = numberOf(m.group(3));
        if (got != want) {
            tell(line + " (answered " + got + ")");
        }
    }

    private static int numberOf(String told) throws ReflectiveOperationException {
        return Character.isUpperCase(told.charAt(0)) ? FractionRun.class.getField(told).getInt(null) : Integer.parseInt(told);
    }

    private static int answer(FractionRun x, String name, String told) throws ReflectiveOperationException {
        String[] parts = told.isEmpty() ? new String[0] : told.equals("','") ? new String[] {told} : told.split(", ");
        Object[] values = new Object[parts.length];
        Class<?>[] types = new Class<?>[parts.length];
        for (int i = 0; i < parts.length; i++) {
            types[i] = int.class;
            values[i] = parts[i].startsWith("'") ? (int) parts[i].charAt(1) : Integer.parseInt(parts[i]);
        }
        try {
            return (Integer) FractionRun.class.getMethod(name, types).invoke(x, values);
        } catch (InvocationTargetException thrown) {
            throw new IllegalStateException(name + "(" + told + ")", thrown.getCause());
        }
    }

    private static void nameEveryCall(String page) {
        for (Method method : FractionRun.class.getDeclaredMethods()) {
            int many = method.getParameterCount();
            String form = "`" + method.getName() + "\\(" + (many == 0 ? "" : "\\w+" + ", \\w+".repeat(many - 1)) + "\\)`";
            if (Modifier.isPublic(method.getModifiers()) && !Pattern.compile("\\| " + form + " +\\|").matcher(page).find()) {
                tell("README.md does not tell of " + method.getName() + " with " + many + " numbers");
            }
        }
        String[] constants = {"BAD`, " + FractionRun.BAD, "NO`, " + FractionRun.NO, "FULL`, " + FractionRun.FULL,
            "NONE`, " + FractionRun.NONE};
        for (String constant : constants) {
            if (!page.contains("| `" + constant + " ")) {
                tell("README.md does not tell of `" + constant);
            }
        }
    }
}
