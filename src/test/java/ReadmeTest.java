import java.lang.reflect.Method;
import java.lang.reflect.Modifier;
import java.nio.file.Files;
import java.nio.file.Path;
import java.util.regex.Matcher;
import java.util.regex.Pattern;

/** README.md tells the truth: its example answers as it says there, and its table has every call. */
public final class ReadmeTest {
    private static final Pattern BLOCK = Pattern.compile("(?s)```java\n(.*?)```");
    private static final Pattern LINE =
        Pattern.compile("q\\.(\\w+)\\((.*)\\); +// (?:\\.\\. )?(-?\\d+).*");
    private static int wrong = 0;

    private static void check(boolean holds, String what) {
        if (!holds) {
            wrong++;
            System.out.println("not so: " + what);
        }
    }

    private static Method method(String name) {
        for (Method method : QuarterWords.class.getDeclaredMethods()) {
            if (Modifier.isPublic(method.getModifiers()) && method.getName().equals(name)) {
                return method;
            }
        }
        throw new IllegalArgumentException("README names " + name + ", which is no call");
    }

    private static Object argument(Class<?> type, String told) {
        if (type == boolean.class) {
            return Boolean.valueOf(told);
        }
        if (type == long.class) {
            return Long.valueOf(told);
        }
        return told.startsWith("'") ? Integer.valueOf(told.charAt(1)) : Integer.valueOf(told);
    }

    private static long answer(QuarterWords q, String name, String told) throws Exception {
        Method method = method(name);
        Class<?>[] types = method.getParameterTypes();
        String[] parts = told.isEmpty() ? new String[0] : told.split(", ");
        Object[] arguments = new Object[types.length];
        check(parts.length == types.length, name + " has " + types.length + " numbers");
        for (int i = 0; i < types.length; i++) {
            arguments[i] = argument(types[i], parts[i]);
        }
        return ((Number) method.invoke(q, arguments)).longValue();
    }

    private static void example(String readme) throws Exception {
        Matcher block = BLOCK.matcher(readme);
        check(block.find(), "README has an example");
        QuarterWords q = null;
        for (String line : block.group(1).split("\n")) {
            if (line.equals("QuarterWords q = new QuarterWords();")) {
                q = new QuarterWords();
                continue;
            }
            Matcher call = LINE.matcher(line);
            check(call.matches(), "a call with its answer: " + line);
            if (call.matches()) {
                long got = answer(q, call.group(1), call.group(2));
                check(got == Long.parseLong(call.group(3)), line + " answered " + got);
            }
        }
        check(!block.find(), "README has one example");
    }

    private static void table(String readme) {
        for (Method method : QuarterWords.class.getDeclaredMethods()) {
            if (Modifier.isPublic(method.getModifiers())) {
                Pattern row = Pattern.compile("(?m)^\\| [^|]*`" + method.getName() + "`[^|]*\\|");
                check(row.matcher(readme).find(), "README's table has " + method.getName());
            }
        }
    }

    public static void main(String[] args) throws Exception {
        Path root = Path.of(System.getProperty("project.root", "."));
        String readme = Files.readString(root.resolve("README.md"));
        example(readme);
        table(readme);
        System.out.println(wrong == 0 ? "readme: all as due" : wrong + " lines are not as due");
        if (wrong != 0) {
            System.exit(1);
        }
    }
}
