import java.io.IOException;
import java.lang.reflect.InvocationTargetException;
import java.lang.reflect.Method;
import java.nio.file.Files;
import java.nio.file.Path;
import java.util.ArrayList;
import java.util.List;
import java.util.TreeSet;

/** Runs the tests of edges, each of which names its promise; and sees that their words stand in the document. */
public final class BoundsTest {
    static final String DOCUMENT = "../shared/DOC.md";
    static final Class<?>[] ALL = {TermsBounds.class, ShelvesBounds.class, TapeBounds.class, LevelsBounds.class,
        AskedBounds.class, LaterBounds.class};
    static int failed = 0;

    /** What the document says of a promise (0: its Terms), all on one line. */
    static String part(String document, int promise) {
        int start = document.indexOf(promise == 0 ? "## Terms" : "## Promise " + promise + ":");
        int end = document.indexOf("\n## ", start + 1);
        return document.substring(start, end).replaceAll("\\s+", " ");
    }

    static List<Method> tests() {
        List<Method> tests = new ArrayList<>();
        for (Class<?> type : ALL) {
            for (Method method : type.getDeclaredMethods()) {
                if (method.isAnnotationPresent(Says.class)) {
                    tests.add(method);
                }
            }
        }
        tests.sort((a, b) -> a.getAnnotation(Says.class).promise() != b.getAnnotation(Says.class).promise()
                ? Integer.compare(a.getAnnotation(Says.class).promise(), b.getAnnotation(Says.class).promise())
                : a.getName().compareTo(b.getName()));
        return tests;
    }

    static void run(Method test, String document) throws IllegalAccessException {
        Says says = test.getAnnotation(Says.class);
        Checks.promise = "promise " + says.promise() + ", " + test.getName() + ", \"" + says.words() + "\"";
        int ahead = Checks.wrong;
        int checks = Checks.checks;
        if (!part(document, says.promise()).contains(says.words())) {
            Checks.wrong++;
            System.out.println(Checks.promise + ": the document has no such words");
        }
        try {
            test.invoke(null);
        } catch (InvocationTargetException thrown) {
            Checks.wrong++;
            System.out.println(Checks.promise + ": threw " + thrown.getCause());
        }
        if (Checks.checks == checks) {
            Checks.wrong++;
            System.out.println(Checks.promise + ": nothing was asked");
        }
        failed += Checks.wrong > ahead ? 1 : 0;
    }

    public static void main(String[] args) throws IOException, IllegalAccessException {
        String document = Files.readString(Path.of(DOCUMENT));
        TreeSet<Integer> promises = new TreeSet<>();
        List<Method> tests = tests();
        for (Method test : tests) {
            promises.add(test.getAnnotation(Says.class).promise());
            run(test, document);
        }
        for (int promise = 0; promise <= 42; promise++) {
            if (!promises.contains(promise)) {
                failed++;
                System.out.println("promise " + promise + " has no test of its edges");
            }
        }
        System.out.println(tests.size() + " tests of edges with " + Checks.checks + " answers, " + failed + " not so");
        if (failed != 0) {
            System.exit(1);
        }
    }
}
