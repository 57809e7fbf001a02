import java.io.IOException;
import java.lang.reflect.Method;
import java.lang.reflect.Modifier;
import java.nio.file.Files;
import java.nio.file.Path;
import java.util.regex.Matcher;
import java.util.regex.Pattern;

/** README.md: its example answers as it says there, and each call of the face stands in one of its tables. */
public final class ReadmeTest {
    static final String README = "README.md";
    static final Pattern CALL = Pattern.compile("x\\.(\\w+)\\((.*?)\\); +// (-?\\d+)\\b.*");
    static int wrong = 0;

    static void must(boolean fine, String what) {
        if (!fine) {
            wrong++;
            System.out.println("not so: " + what);
        }
    }

    static Method named(String name) {
        for (Method method : PageLevels.class.getDeclaredMethods()) {
            if (Modifier.isPublic(method.getModifiers()) && method.getName().equals(name)) {
                return method;
            }
        }
        throw new IllegalStateException("no call is named " + name);
    }

    static Object argument(String text, Class<?> type) {
        boolean letter = text.startsWith("'");
        long number = letter ? text.charAt(1) : Long.parseLong(text);
        return type == long.class ? (Object) number : (Object) (int) number;
    }

    static int example(String readme) throws ReflectiveOperationException {
        String code = readme.substring(readme.indexOf("```java"), readme.lastIndexOf("```"));
        PageLevels x = new PageLevels();
        int calls = 0;
        for (String line : code.split("\n")) {
            Matcher matcher = CALL.matcher(line);
            if (matcher.matches()) {
                calls++;
                Method method = named(matcher.group(1));
                String[] texts = matcher.group(2).isEmpty() ? new String[0] : matcher.group(2).split(", ");
                Object[] arguments = new Object[texts.length];
                for (int i = 0; i < texts.length; i++) {
                    arguments[i] = argument(texts[i], method.getParameterTypes()[i]);
                }
                long got = ((Number) method.invoke(x, arguments)).longValue();
                must(got == Long.parseLong(matcher.group(3)), line + " answered " + got);
            } else {
                must(!line.startsWith("x."), "an answer behind " + line);
            }
        }
        return calls;
    }

    static void tables(String readme) {
        for (Method method : PageLevels.class.getDeclaredMethods()) {
            if (Modifier.isPublic(method.getModifiers())) {
                Matcher row = Pattern.compile("\n\\| `" + method.getName() + "\\((.*?)\\)` \\|").matcher(readme);
                boolean found = row.find();
                must(found, "a table has " + method.getName());
                String arguments = found ? row.group(1) : "";
                int told = arguments.isEmpty() ? 0 : arguments.split(", ").length;
                must(told == method.getParameterCount(), "how many arguments " + method.getName() + " takes");
            }
        }
    }

    public static void main(String[] args) throws IOException, ReflectiveOperationException {
        String readme = Files.readString(Path.of(README));
        int calls = example(readme);
        must(calls > 15, "calls in the example: " + calls);
        tables(readme);
        System.out.println(wrong == 0 ? calls + " calls of README.md answer as it says" : wrong + " are not as it says");
        if (wrong != 0) {
            System.exit(1);
        }
    }
}
