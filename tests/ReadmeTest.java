import java.io.IOException;
import java.lang.reflect.Field;
import java.lang.reflect.Method;
import java.lang.reflect.Modifier;
import java.nio.file.Files;
import java.nio.file.Path;
import java.util.regex.Matcher;
import java.util.regex.Pattern;

/** What README.md tells of the class: its example answers so, and no call or constant is left out. */
public final class ReadmeTest {
    private static final Pattern EXAMPLE = Pattern.compile("(?s)```java\n(.*?)```");
    private static final Pattern LINE = Pattern.compile("((?:x\\.\\w+\\([^;]*\\); *)+)// (-?\\d+|[A-Z_]+)(: .+)?");
    private static final Pattern CALL = Pattern.compile("x\\.(\\w+)\\(([^;]*)\\);");

    private static int calls = 0;
    private static int wrong = 0;

    private static void check(boolean holds, String what) {
        if (!holds) {
            wrong++;
            System.out.println(what);
        }
    }

    private static int valueOf(String argument) {
        return argument.startsWith("'") ? argument.charAt(1) : Integer.parseInt(argument);
    }

    private static int[] valuesOf(String arguments) {
        String[] told = arguments.isBlank() ? new String[0] : arguments.split(", ");
        int[] values = new int[told.length];
        for (int i = 0; i < told.length; i++) {
            values[i] = valueOf(told[i]);
        }
        return values;
    }

    private static int due(String told) throws ReflectiveOperationException {
        return Character.isUpperCase(told.charAt(0)) ? DescentShuffles.class.getField(told).getInt(null)
            : Integer.parseInt(told);
    }

    /** The answer of a line's last call is told behind it. */
    private static void checkExample(String example) throws ReflectiveOperationException {
        Tried x = Tried.fresh();
        for (String line : example.split("\n")) {
            if (line.equals("DescentShuffles x = new DescentShuffles();")) {
                x = Tried.fresh();
                continue;
            }
            Matcher parts = LINE.matcher(line);
            if (!parts.matches()) {
                check(false, "no call with its answer: " + line);
                continue;
            }
            int got = 0;
            Matcher each = CALL.matcher(parts.group(1));
            while (each.find()) {
                got = x.answer(each.group(1), valuesOf(each.group(2)));
                calls++;
            }
            check(got == due(parts.group(2)), line + " answered " + got);
        }
    }

    private static void checkAllTold(String page) {
        for (Method method : DescentShuffles.class.getDeclaredMethods()) {
            if (Modifier.isPublic(method.getModifiers())) {
                int many = method.getParameterCount();
                String arguments = many == 0 ? "" : "\\w+" + ", \\w+".repeat(many - 1);
                String told = "(?m)^- .*`" + method.getName() + "\\(" + arguments + "\\)`.*:";
                check(Pattern.compile(told).matcher(page).find(), method.getName() + " is not told");
            }
        }
        for (Field field : DescentShuffles.class.getFields()) {
            check(page.contains("\n- `" + field.getName() + "`: "), field.getName() + " is not told");
        }
    }

    public static void main(String[] args) throws IOException, ReflectiveOperationException {
        String page = Files.readString(Path.of("README.md"));
        Matcher examples = EXAMPLE.matcher(page);
        while (examples.find()) {
            checkExample(examples.group(1));
        }
        check(calls > 0, "there is no example");
        checkAllTold(page);
        for (String fault : Tried.takeFaults()) {
            check(false, fault);
        }
        System.out.println(calls + " calls of README.md, " + wrong + " faults");
        if (wrong != 0) {
            System.exit(1);
        }
    }
}
