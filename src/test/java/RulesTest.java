import java.io.IOException;
import java.lang.reflect.Constructor;
import java.lang.reflect.Field;
import java.lang.reflect.Method;
import java.lang.reflect.Modifier;
import java.nio.file.Files;
import java.nio.file.Path;
import java.util.ArrayList;
import java.util.Arrays;
import java.util.List;
import java.util.Random;
import java.util.TreeSet;
import java.util.regex.Matcher;
import java.util.regex.Pattern;

/** What ../shared/LANGUAGE.md asks, as far as a test can see it; and that no call ever throws. */
public final class RulesTest {
    static final String SOURCE = "src/main/java/PageLevels.java";
    static final String DOCUMENT = "../shared/DOC.md";
    static int wrong = 0;

    static void must(boolean fine, String what) {
        if (!fine) {
            wrong++;
            System.out.println("not so: " + what);
        }
    }

    /** The face as the document writes it, against the class's own. */
    static void face() throws IOException {
        String document = Files.readString(Path.of(DOCUMENT));
        String face = document.substring(document.indexOf("public final class"), document.indexOf("## Terms"));
        TreeSet<String> wanted = new TreeSet<>();
        Matcher matcher = Pattern.compile("public (int|long) (\\w+)\\((.*?)\\);").matcher(face);
        while (matcher.find()) {
            String types = matcher.group(3).replaceAll("(int|long) \\w+", "$1").replace(" ", "");
            wanted.add(matcher.group(1) + " " + matcher.group(2) + "(" + types + ")");
        }
        must(wanted.size() == 41, "41 methods in the document: " + wanted.size());
        TreeSet<String> found = new TreeSet<>();
        TreeSet<String> names = new TreeSet<>();
        for (Method method : PageLevels.class.getDeclaredMethods()) {
            if (!Modifier.isPrivate(method.getModifiers())) {
                List<String> types = new ArrayList<>();
                for (Class<?> type : method.getParameterTypes()) {
                    types.add(type.getName());
                }
                found.add(method.getReturnType().getName() + " " + method.getName() + "(" + String.join(",", types) + ")");
                names.add(method.getName());
                must(Modifier.isPublic(method.getModifiers()), "public: " + method);
            }
        }
        must(found.equals(wanted), "the face: " + found + " for " + wanted);
        for (Class<?> inside : PageLevels.class.getDeclaredClasses()) {
            must(Modifier.isStatic(inside.getModifiers()), "static: " + inside);
            must(!Modifier.isPublic(inside.getModifiers()), "not public: " + inside);
            must(ownFields(inside) <= 20, "few fields: " + inside);
            for (Method method : inside.getDeclaredMethods()) {
                must(!names.contains(method.getName()), "a name of its own: " + method);
            }
        }
        for (Method method : PageLevels.class.getDeclaredMethods()) {
            boolean hidden = Modifier.isPrivate(method.getModifiers()) && names.contains(method.getName());
            must(!hidden, "a name of its own: " + method);
        }
        must(PageLevels.class.getDeclaredClasses().length <= 11, "few classes");
        must(Modifier.isFinal(PageLevels.class.getModifiers()), "final");
        must(ownFields(PageLevels.class) <= 20, "few fields");
        must(PageLevels.class.getDeclaredConstructors().length == 1, "one constructor");
        for (Constructor<?> constructor : PageLevels.class.getDeclaredConstructors()) {
            must(Modifier.isPublic(constructor.getModifiers()), "public: " + constructor);
        }
        for (Field field : PageLevels.class.getDeclaredFields()) {
            boolean constant = field.getName().equals("NONE") && Modifier.isPublic(field.getModifiers());
            must(constant || Modifier.isPrivate(field.getModifiers()), "private: " + field);
        }
    }

    static long ownFields(Class<?> type) {
        return Arrays.stream(type.getDeclaredFields()).filter(f -> !Modifier.isStatic(f.getModifiers())).count();
    }

    static void words() throws IOException {
        String source = Files.readString(Path.of(SOURCE));
        must(source.chars().allMatch(c -> c < 128), "plain signs");
        String code = source.replaceAll("(?s)/\\*.*?\\*/", "").replaceAll("//[^\n]*", "");
        String[] banned = {"throw", "throws", "try", "catch", "finally", "synchronized", "assert", "import", "package",
            "static {", "->", "::", "instanceof", "System.out", "Exact", "equals", "hashCode", "toString", "protected",
            "Object", "float", "double", "volatile", "native"};
        for (String word : banned) {
            boolean sign = !Character.isLetter(word.charAt(0)) || word.contains(" ") || word.contains(".");
            String pattern = sign || word.equals("Exact") ? Pattern.quote(word) : "\\b" + word + "\\b";
            must(!Pattern.compile(pattern).matcher(code).find(), "without " + word);
        }
        Matcher method = Pattern.compile("\n( +)(?:\\w+ )+\\w+\\(([^)]*)\\) \\{\n(.*?)\n\\1\\}", Pattern.DOTALL).matcher(code);
        int methods = 0;
        while (method.find()) {
            methods++;
            must(method.group(3).split("\n").length <= 60, "short: " + method.group().strip().split("\n")[0]);
            must(method.group(2).split(",").length <= 7, "seven parameters: " + method.group(2));
        }
        must(methods > 100, "methods seen: " + methods);
        for (String line : code.split("\n")) {
            boolean made = line.matches(".*\\bnew\\b.*");
            boolean field = line.matches("    +(private )?final .*= new .*;");
            boolean filled = line.matches(" +(shelves\\[s\\]|levels\\[k\\]) = new (Shelf|Level)\\(\\);");
            must(!made || field || filled, "made by the constructor alone: " + line.strip());
        }
    }

    /** Numbers of any kind, in any state. */
    static int number(Random random) {
        switch (random.nextInt(8)) {
            case 0: return random.nextInt();
            case 1: return Integer.MIN_VALUE + random.nextInt(3);
            case 2: return Integer.MAX_VALUE - random.nextInt(3);
            case 3: return random.nextInt(80) - 8;
            default: return random.nextInt(9);
        }
    }

    static void anything() throws ReflectiveOperationException {
        List<Method> methods = new ArrayList<>();
        for (Method method : PageLevels.class.getDeclaredMethods()) {
            if (Modifier.isPublic(method.getModifiers())) {
                methods.add(method);
            }
        }
        methods.sort((a, b) -> a.getName().compareTo(b.getName()));
        for (int run = 0; run < 400; run++) {
            Random random = new Random(run);
            PageLevels x = new PageLevels();
            for (int call = 0; call < 1000; call++) {
                Method method = methods.get(random.nextInt(methods.size()));
                Object[] a = new Object[method.getParameterCount()];
                for (int i = 0; i < a.length; i++) {
                    boolean wide = method.getParameterTypes()[i] == long.class;
                    a[i] = wide ? (Object) (long) number(random) : (Object) number(random);
                }
                method.invoke(x, a);
            }
        }
    }

    public static void main(String[] args) throws Exception {
        face();
        words();
        anything();
        System.out.println(wrong == 0 ? "the rules are kept" : wrong + " rules are not kept");
        if (wrong != 0) {
            System.exit(1);
        }
    }
}
