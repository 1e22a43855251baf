import java.lang.reflect.InvocationTargetException;
import java.lang.reflect.Method;
import java.lang.reflect.Modifier;
import java.nio.file.Files;
import java.nio.file.Path;
import java.util.List;
import java.util.TreeSet;
import java.util.regex.Matcher;
import java.util.regex.Pattern;
import java.util.stream.Stream;

/** Holds README.md against the program: each call that stands there, the face, and the tests that it names. */
public final class ReadmeTest {
    private static final Pattern CALL = Pattern.compile("x\\.(\\w+)\\((.*)\\); *// (-?\\w+)(:.*)?");
    private static final Pattern FED = Pattern.compile(": \"(.*)\"");

    private static GrievingCamels x = null;

    public static void main(String[] args) throws Exception {
        String page = Files.readString(Path.of("README.md"));
        calls(page);
        face(page);
        tests(page);
        Checks.end("ReadmeTest");
    }

    private static void calls(String page) throws Exception {
        boolean inside = false;
        int made = 0;
        for (String line : page.split("\n")) {
            if (line.startsWith("```")) {
                inside = line.equals("```java");
            } else if (inside && line.equals("GrievingCamels x = new GrievingCamels();")) {
                x = new GrievingCamels();
            } else if (inside) {
                call(line);
                made++;
            }
        }
        holds("a page with calls", made > 50);
    }

    private static void call(String line) throws Exception {
        Matcher m = CALL.matcher(line);
        holds("a call and its answer: " + line, m.matches());
        if (m.matches()) {
            String got = answer(m.group(1), m.group(2));
            holds(line + " answered " + got, got.equals(m.group(3)));
            if (m.group(1).equals("feed")) {
                fed(line, m.group(2), m.group(4));
            }
        }
    }

    private static String answer(String name, String args) throws Exception {
        Method method = named(name);
        Class<?>[] types = method.getParameterTypes();
        String[] told = args.isEmpty() ? new String[0] : args.split(", *");
        Object[] given = new Object[types.length];
        for (int i = 0; i < given.length; i++) {
            long number = Long.decode(told[i]);
            given[i] = types[i] == long.class ? (Object) number : (Object) (int) number;
        }
        try {
            return String.valueOf(method.invoke(x, given));
        } catch (InvocationTargetException e) {
            return e.getCause().getClass().getSimpleName();
        }
    }

    /** The text that stands behind a feeding is what it feeds, filled up with zeros. */
    private static void fed(String line, String args, String comment) {
        Matcher m = FED.matcher(comment == null ? "" : comment);
        holds("a feeding and its text: " + line, m.matches());
        StringBuilder text = new StringBuilder();
        for (String each : args.split(", *")) {
            for (int shift = 24; shift >= 0; shift -= 8) {
                int sign = (int) (Long.decode(each) >> shift) & 255;
                text.append(sign == 0 ? "" : (char) sign);
            }
        }
        holds("what is fed by " + line + " is " + text, m.matches() && m.group(1).contentEquals(text));
    }

    private static Method named(String name) {
        return face().filter(m -> m.getName().equals(name)).findFirst().orElseThrow();
    }

    private static Stream<Method> face() {
        return Stream.of(GrievingCamels.class.getDeclaredMethods()).filter(m -> Modifier.isPublic(m.getModifiers()));
    }

    /** The table of calls has each method of the face once, and nothing else. */
    private static void face(String page) {
        String table = page.substring(page.indexOf("| about | calls |"), page.indexOf("Of these `feed`"));
        List<String> told = all(table, "`(\\w+)`");
        TreeSet<String> due = new TreeSet<>(face().map(Method::getName).toList());
        holds("the face in the table: " + told, due.equals(new TreeSet<>(told)));
        holds("each once: " + told, told.size() == due.size());
    }

    private static void tests(String page) throws Exception {
        TreeSet<String> due = new TreeSet<>();
        try (Stream<Path> files = Files.list(Path.of("src/test/java"))) {
            files.map(f -> f.getFileName().toString().replace(".java", "")).filter(f -> f.endsWith("Test"))
                    .forEach(due::add);
        }
        String list = page.substring(page.indexOf("## How to run its tests"));
        holds("the tests that are named", due.equals(new TreeSet<>(all(list, "`(\\w+Test)`"))));
    }

    private static List<String> all(String text, String pattern) {
        return Pattern.compile(pattern).matcher(text).results().map(m -> m.group(1)).toList();
    }

    private static void holds(String what, boolean so) {
        Checks.is(0, "README.md, " + what, so ? 1 : 0, 1);
    }
}
