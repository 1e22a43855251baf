import java.lang.reflect.Constructor;
import java.lang.reflect.Field;
import java.lang.reflect.Method;
import java.lang.reflect.Modifier;
import java.nio.file.Files;
import java.nio.file.Path;
import java.util.ArrayList;
import java.util.Arrays;
import java.util.IdentityHashMap;
import java.util.List;
import java.util.Map;
import java.util.TreeSet;
import java.util.regex.Matcher;
import java.util.regex.Pattern;

/** The face as the document has it, the rules of the language that can be seen from outside, and the room. */
public final class LanguageTest {
    private static final String FACE =
        "feed(int,int,int,int,int)int land(int)int fault()int told(int)int place(int)int road(int,int)int "
        + "camel(int,int)int grief(int,int,int)int hurt(int,int,int)int soothe(int,int)int string(int,long)int "
        + "row(int)int halt(int)int value(int,int)int would(int,int)int route(int,long)int at(int)int hours(int)int "
        + "stop(int)int whose(int)int go()int undo()int least(int,int,int)long roped(int,int)int parted(int)int "
        + "sell(int)int heal(int)int lay(int,int)int clear()int explain(int)int compared(int,int)int race(int)int "
        + "doubt(int,int)int span(int,int,int,int)int plan(int)int run(int,int)int ran(int,int,int)int "
        + "ranRow(int,int)int begin()int visited(int,int,int)int widest(int)int learnt(int,int)int forgot(int,int)int "
        + "soon(int)int quarrel(int,int)boolean shy()int heavy()int light(int)int image()int restore()int "
        + "status(int)int count(int)int";

    public static void main(String[] args) throws Exception {
        face();
        source(Files.readString(Path.of("src/main/java/GrievingCamels.java")));
        room();
        Checks.end("LanguageTest");
    }

    private static void same(String what, Object got, Object due) {
        if (!got.equals(due)) {
            System.out.println(what + ": " + got + ", due is " + due);
        }
        Checks.is(0, what, got.equals(due) ? 1 : 0, 1);
    }

    private static void face() {
        TreeSet<String> shown = new TreeSet<>();
        TreeSet<String> hidden = new TreeSet<>();
        for (Method m : GrievingCamels.class.getDeclaredMethods()) {
            StringBuilder name = new StringBuilder(m.getName()).append("(");
            for (Class<?> type : m.getParameterTypes()) {
                name.append(name.charAt(name.length() - 1) == '(' ? "" : ",").append(type.getName());
            }
            name.append(")").append(m.getReturnType().getName());
            if (m.isSynthetic()) {
                continue;
            }
            if (!Modifier.isPrivate(m.getModifiers())) {
                shown.add(name.toString());
            } else {
                hidden.add(m.getName());
            }
        }
        same("the face", shown, new TreeSet<>(Arrays.asList(FACE.split(" "))));
        for (Class<?> inner : GrievingCamels.class.getDeclaredClasses()) {
            int bits = inner.getModifiers();
            same("neither public nor protected, " + inner, Modifier.isPublic(bits) || Modifier.isProtected(bits), false);
        }
        for (String each : FACE.split(" ")) {
            same("hidden " + each, hidden.contains(each.substring(0, each.indexOf('('))), false);
        }
        same("classes, some twelve", GrievingCamels.class.getDeclaredClasses().length < 16, true);
        same("a final class", Modifier.isFinal(GrievingCamels.class.getModifiers()), true);
        for (Field f : GrievingCamels.class.getDeclaredFields()) {
            boolean constant = f.getName().equals("NONE");
            same("field " + f.getName(), Modifier.isPublic(f.getModifiers()), constant);
            same("field " + f.getName(), Modifier.isPrivate(f.getModifiers()) || f.isSynthetic(), !constant);
        }
        Constructor<?>[] made = GrievingCamels.class.getDeclaredConstructors();
        same("constructors", made.length, 1);
        same("its parameters", made[0].getParameterCount(), 0);
        exceptions();
    }

    /** Each method tells the exceptions that the document tells of it, and no others. */
    private static void exceptions() {
        String index = "IndexOutOfBoundsException";
        String element = "NoSuchElementException";
        String argument = "IllegalArgumentException";
        String state = "IllegalStateException";
        told(List.of(argument), "land told string route lay explain compared plan widest");
        told(List.of(argument, state), "hours roped parted sell heal race doubt span soon light");
        told(List.of(index), "place road halt ranRow");
        told(List.of(element, argument), "camel quarrel");
        told(List.of(index, element, argument), "grief hurt");
        told(List.of(index, element), "soothe ran");
        told(List.of(index, argument), "value would least run visited");
        told(List.of(state), "stop whose go heavy");
        told(List.of(index, element, state), "learnt forgot");
        told(List.of(), "feed fault row at undo clear begin shy image restore status count");
    }

    private static void told(List<String> due, String names) {
        for (Method m : GrievingCamels.class.getDeclaredMethods()) {
            if (Modifier.isPublic(m.getModifiers()) && List.of(names.split(" ")).contains(m.getName())) {
                List<String> got = new ArrayList<>();
                for (Class<?> each : m.getExceptionTypes()) {
                    got.add(each.getSimpleName());
                }
                same("what " + m.getName() + " throws", got, due);
            }
        }
    }

    /** What of the rules can be seen in the text: nothing that they allow is refused here. */
    private static void source(String text) {
        String bare = text.replaceAll("(?s)/\\*.*?\\*/", "").replaceAll("//[^\n]*", "");
        String code = bare.replaceAll("\"[^\"\n]*\"", "\"\"");
        for (String each : all(code, "import ([\\w.]+);")) {
            same("import " + each, List.of("java.util.NoSuchElementException", "java.util.ArrayList", "java.util.List",
                "java.util.Arrays", "java.util.Iterator").contains(each), true);
        }
        for (String no : new String[] {"::", "\\bassert\\b", "\\bsynchronized\\b", "\\bpackage\\b", "\\bfinally\\b",
            "\\btry \\(", "static \\{", "\"\" *\\+", "\\+ *\"\"", "Exact\\(", "\\bnative\\b", "\\bvolatile\\b",
            "\\bThrowable\\b", "\\bError\\b", "\\bException\\b", "getMessage", "\\bhashCode\\b"}) {
            same("no " + no, all(code, "(" + no + ")"), List.of());
        }
        for (String line : code.split("\n")) {
            same("no lambda: " + line, line.contains("->") && !line.strip().matches("(case|default).*"), false);
        }
        for (String each : all(code, "\\b(System\\.\\w+)")) {
            same(each, each, "System.arraycopy");
        }
        for (String each : all(code, "catch \\((\\w+)")) {
            same("what is caught", List.of("IllegalStateException", "IllegalArgumentException", "NoSuchElementException",
                "UnsupportedOperationException").contains(each), true);
        }
    }

    private static List<String> all(String text, String pattern) {
        List<String> found = new ArrayList<>();
        Matcher m = Pattern.compile(pattern).matcher(text);
        while (m.find()) {
            found.add(m.group(1));
        }
        return found;
    }

    /** One run lives in a room of some 600,000 objects and 7.3 million fields and elements. */
    private static void room() throws Exception {
        Map<Object, Object> seen = new IdentityHashMap<>();
        GrievingCamels x = new GrievingCamels();
        long elements = weigh(x, seen);
        same("objects, " + seen.size(), seen.size() < 60000, true);
        same("elements, " + elements, elements < 730000, true);
        Checks.land(x, "place 0;place 1;place 2;place 3;road 0 1 4;road 1 2 3;road 0 2 9;road 2 3 2;camel 50;camel 20;"
            + "camel 70;hurt 0 1 6;hurt 1 1 2;hurt 1 2 5;hurt 2 3 4;hurt 0 3 3;calf 2 0;law (sum+most)*2;");
        Checks.plan(x, "again 9[go 1;go 2;if halt>0[drop 1;]else[lead 1;];];");
        x.route(4, 123);
        long sum = many(x, 0);
        com.sun.management.ThreadMXBean bean =
            (com.sun.management.ThreadMXBean) java.lang.management.ManagementFactory.getThreadMXBean();
        long before = bean.getCurrentThreadAllocatedBytes();
        // All calls but those of texts, so often that there are not quite 512 of them.
        for (int i = 0; i < 8; i++) {
            sum += many(x, i);
        }
        long made = bean.getCurrentThreadAllocatedBytes() - before;
        same("made by 8 times all calls, " + made + " (" + sum + ")", made < 20000000, true);
    }

    private static long many(GrievingCamels x, int i) {
        long sum = x.least(0, 3, 2) + x.roped(7, 1) + x.parted(1) + x.sell(1) + x.heal(1) + x.lay(7, i % 9);
        sum += x.explain(0) + x.compared(1, 6) + x.race(3) + x.doubt(i, 4) + x.span(i, 4, 60, 2) + x.run(0, 3);
        sum += x.ran(0, 1, 1) + x.ranRow(0, 1) + x.begin() + x.visited(0, 99, 1) + x.widest(1) + x.learnt(1, 2);
        sum += x.forgot(1, 2) + x.soon(3) + x.shy() + x.heavy() + x.light(20) + x.image() + x.go() + x.whose(1);
        sum += x.hours(0) + x.stop(1) + x.would(1, 7) + x.value(1, 1) + x.halt(1) + x.undo() + x.restore() + x.clear();
        sum += x.string(3, 12 + 9 * (i % 2)) + x.route(4, 123) + x.hurt(1, 1, 1) + x.soothe(1, 1);
        return sum;
    }

    private static long weigh(Object object, Map<Object, Object> seen) throws Exception {
        if (object == null || seen.put(object, object) != null) {
            return 0;
        }
        Class<?> type = object.getClass();
        if (type.isArray() && type.getComponentType().isPrimitive()) {
            return java.lang.reflect.Array.getLength(object);
        }
        long sum = 0;
        if (object instanceof Object[] || object instanceof List<?>) {
            for (Object each : object instanceof Object[] all ? Arrays.asList(all) : (List<?>) object) {
                sum += 1 + weigh(each, seen);
            }
            return sum;
        }
        for (Field f : type.getName().startsWith("java.") ? new Field[0] : type.getDeclaredFields()) {
            if (!Modifier.isStatic(f.getModifiers())) {
                f.setAccessible(true);
                sum += 1 + (f.getType().isPrimitive() ? 0 : weigh(f.get(object), seen));
            }
        }
        return sum;
    }
}
