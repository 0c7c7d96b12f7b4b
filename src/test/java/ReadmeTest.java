import java.io.IOException;
import java.lang.reflect.Field;
import java.lang.reflect.Method;
import java.lang.reflect.Modifier;
import java.nio.file.Files;
import java.nio.file.Path;
import java.util.regex.Matcher;
import java.util.regex.Pattern;

/** README.md: its example answers as it says, each call and each answer below 0 is told, and each test is named. */
public final class ReadmeTest {
    private static final Pattern TYPED = Pattern.compile("for \\(char c : \"([^\"]*)\"\\.toCharArray\\(\\)\\) \\{ x\\.type\\(c\\); }");
    private static final Pattern CALLED = Pattern.compile("x\\.(\\w+)\\(([^)]*)\\);\\s+// (-?\\d+).*");

    public static void main(String[] args) throws Exception {
        String page = Files.readString(Path.of("README.md"));
        example(page);
        calls(page);
        constants(page);
        tests(page);
        Bench.end("README.md");
    }

    private static void example(String page) throws ReflectiveOperationException {
        MeetingGroups x = null;
        for (String line : page.split("```java\n")[1].split("```")[0].split("\n")) {
            Bench.named(line);
            Matcher typed = TYPED.matcher(line);
            Matcher called = CALLED.matcher(line);
            if (line.equals("MeetingGroups x = new MeetingGroups();")) {
                x = new MeetingGroups();
            } else if (typed.matches()) {
                Bench.type(x, typed.group(1));
            } else if (called.matches()) {
                Bench.due("", answer(x, called.group(1), called.group(2)), Integer.parseInt(called.group(3)));
            } else {
                Bench.fails("a line of the example can't be run: " + line);
            }
        }
    }

    private static int answer(MeetingGroups x, String name, String words) throws ReflectiveOperationException {
        for (Method m : MeetingGroups.class.getMethods()) {
            if (m.getName().equals(name)) {
                String[] each = words.isEmpty() ? new String[0] : words.split(", ");
                Object[] arguments = new Object[each.length];
                for (int a = 0; a < each.length; a++) {
                    boolean wide = m.getParameterTypes()[a] == long.class;
                    arguments[a] = wide ? (Object) Long.valueOf(each[a]) : (Object) Integer.valueOf(each[a]);
                }
                return (int) m.invoke(x, arguments);
            }
        }
        throw new NoSuchMethodException(name);
    }

    /** A call's row begins with its name and as many arguments as it takes. */
    private static void calls(String page) {
        for (Method m : MeetingGroups.class.getDeclaredMethods()) {
            if (Modifier.isPublic(m.getModifiers())) {
                int takes = m.getParameterCount();
                String arguments = takes == 0 ? "" : "\\w+(, \\w+){" + (takes - 1) + "}";
                Pattern row = Pattern.compile("(?m)^\\| `" + m.getName() + "\\(" + arguments + "\\)` \\| \\S.*\\|$");
                Bench.due("the row of " + m.getName(), row.matcher(page).find() ? 1 : 0, 1);
            }
        }
    }

    private static void constants(String page) throws IllegalAccessException {
        for (Field f : MeetingGroups.class.getFields()) {
            String row = "| `" + f.getName() + "` | " + f.getInt(null) + " | ";
            Bench.due("the row of " + f.getName(), page.contains(row) ? 1 : 0, 1);
        }
    }

    private static void tests(String page) throws IOException {
        Bench.due(".ci/run", page.contains("\n.ci/run\n") ? 1 : 0, 1);
        try (var files = Files.list(Path.of("src/test/java"))) {
            for (Path file : files.toList()) {
                String name = file.getFileName().toString().replaceAll("\\.java$", "").replaceAll("^Boundary.*", "Boundary..Test");
                Bench.due(name, page.contains("- `" + name + "`") ? 1 : 0, 1);
            }
        }
    }
}
