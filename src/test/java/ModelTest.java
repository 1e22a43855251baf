import java.lang.reflect.InvocationTargetException;
import java.lang.reflect.Method;
import java.lang.reflect.Modifier;
import java.util.ArrayList;
import java.util.List;
import java.util.Random;
import java.util.TreeMap;

/**
 * Random runs of calls, each answer held against that of NaiveCamels.
 * Arguments: how many runs (60), the first seed (1).
 */
public final class ModelTest {
    private static final int CALLS = 512;
    private static int wrong = 0;
    private static final TreeMap<String, Integer> seen = new TreeMap<>();

    private final Random random;
    private final Texts texts;
    private final GrievingCamels camels = new GrievingCamels();
    private final NaiveCamels naive = new NaiveCamels();
    private final List<String> log = new ArrayList<>();
    private final int seed;
    private boolean broken = false;
    private int calls = 0;

    private ModelTest(int seed) {
        this.seed = seed;
        random = new Random(seed);
        texts = new Texts(random);
    }

    public static void main(String[] args) throws Exception {
        int runs = args.length > 0 ? Integer.parseInt(args[0]) : 60;
        int first = args.length > 1 ? Integer.parseInt(args[1]) : 1;
        for (int i = 0; i < runs && wrong < 5; i++) {
            new ModelTest(first + i).play();
        }
        if (args.length > 0) {
            System.out.println(seen);
        }
        System.out.println(wrong == 0 ? "ModelTest: all is as the naive model says" : wrong + " answers are wrong");
        System.exit(wrong == 0 ? 0 : 1);
    }

    private static final List<Method> FACE = face();

    private static List<Method> face() {
        List<Method> all = new ArrayList<>();
        for (Method m : GrievingCamels.class.getDeclaredMethods()) {
            if (Modifier.isPublic(m.getModifiers())) {
                all.add(m);
            }
        }
        all.sort(java.util.Comparator.comparing(Method::getName));
        return all;
    }

    private static Method named(String name) {
        return FACE.stream().filter(m -> m.getName().equals(name)).findFirst().orElseThrow();
    }

    private void play() throws Exception {
        while (calls < CALLS && !broken) {
            boolean poor = naive.told(1) == 0 || !anyRoad();
            if (log.isEmpty() || texts.oneOf(poor ? 9 : 90)) {
                tell("land", texts.land());
            } else if (texts.oneOf(25)) {
                tell("plan", texts.plan(naive.told(0), naive.told(1)));
                for (int i = 0; i < 6; i++) {
                    call("run", texts.upTo(naive.told(0) - 1), i);
                }
            } else if (texts.oneOf(naive.told(3) == 0 ? 5 : 30)) {
                tellJourney();
            } else if (texts.oneOf(40) && naive.told(0) > 0) {
                seeAndExplain();
            } else if (texts.oneOf(80) && naive.told(3) > 0) {
                goOften();
            } else {
                Method m = texts.any(FACE);
                // Most of the time these ruin what is told; explain is dear in the model.
                boolean rare = List.of("feed", "land", "plan", "route", "explain", "image", "restore")
                        .contains(m.getName());
                if (!rare || texts.oneOf(4)) {
                    call(m.getName(), argsOf(m));
                }
            }
        }
    }

    private void tell(String how, String text) throws Exception {
        if (naive.count(1) + text.length() + 20 > 600) {
            call("land", 0);
            call("feed", 0, 0, 0, 0, 0);
            call("land", texts.upTo(1));
        }
        byte[] bytes = new byte[(text.length() + 19) / 20 * 20];
        random.nextBytes(bytes);
        for (int i = 0; i < text.length(); i++) {
            bytes[i] = (byte) text.charAt(i);
        }
        // What stands on the tape already would come ahead: a short plan of nothing takes it away.
        if (naive.count(1) > 0) {
            call("plan", 0);
        }
        java.nio.ByteBuffer each = java.nio.ByteBuffer.wrap(bytes);
        while (each.hasRemaining()) {
            call("feed", each.getInt(), each.getInt(), each.getInt(), each.getInt(), each.getInt());
        }
        log.add("    " + how + " of: " + text);
        call(how, text.length());
        call("fault");
    }

    private boolean anyRoad() {
        for (int i = 1; i < naive.told(0); i++) {
            if (naive.road(0, i) > 0) {
                return true;
            }
        }
        return false;
    }

    /** Lines that were truly seen in one place, so that there is often a way to explain them. */
    private void seeAndExplain() throws Exception {
        int place = texts.upTo(naive.told(0) - 1);
        call("clear");
        for (int i = texts.upTo(10); i >= 0; i--) {
            int bits = intFor("lay", 0) & (1 << naive.told(1)) - 1;
            call("lay", bits, naive.would(place, bits));
        }
        for (int i = 0; i < 4; i++) {
            call("explain", i);
        }
    }

    private void goOften() throws Exception {
        call("image");
        for (int i = texts.upTo(27); i >= 0; i--) {
            call("go");
            call("told", 5);
            if (texts.oneOf(9)) {
                call("undo");
            }
        }
        call("image");
        for (int i = texts.upTo(20); i >= 0; i--) {
            call("undo");
            call("hours", 0);
        }
        call("restore");
        call("hours", 0);
        call("count", 2);
        call("undo");
        call("restore");
        call("hours", 0);
    }

    private void tellJourney() throws Exception {
        int places = naive.told(0);
        if (places < 2) {
            call("route", 2, 1L);
            return;
        }
        long digits = texts.upTo(places - 1);
        int here = (int) digits;
        int many = 1;
        int wanted = 2 + texts.upTo(10);
        for (int i = 0; i < 200 && many < wanted; i++) {
            int next = texts.upTo(places - 1);
            if (naive.road(here, next) > 0) {
                digits = digits * 10 + next;
                here = next;
                many++;
            }
        }
        call("route", Math.max(2, many), digits);
        if (texts.oneOf(6)) {
            // One place less than there are digits: mostly its end alone would be joined all along.
            call("route", Math.max(2, many - 1), digits);
            call("route", Math.max(2, many), digits + power(Math.max(2, many)));
        }
    }

    private Object[] argsOf(Method m) {
        Class<?>[] types = m.getParameterTypes();
        Object[] args = new Object[types.length];
        for (int i = 0; i < types.length; i++) {
            args[i] = types[i] == long.class ? (Object) longFor(m.getName(), args) : (Object) intFor(m.getName(), i);
        }
        return args;
    }

    private long longFor(String name, Object[] before) {
        if (texts.oneOf(20)) {
            return texts.oneOf(2) ? random.nextLong() : -texts.upTo(100);
        }
        int many = (Integer) before[0];
        long digits = 0;
        List<Integer> left = new ArrayList<>();
        for (int i = 0; i < naive.told(name.equals("string") ? 1 : 0); i++) {
            left.add(i);
        }
        java.util.Collections.shuffle(left, random);
        for (int i = 0; i < many && i < left.size(); i++) {
            digits = digits * 10 + left.get(i);
        }
        if (texts.oneOf(12)) {
            return digits + 1;
        }
        // A digit too many, ahead of a row that would do without it.
        return texts.oneOf(12) ? digits + (1 + texts.upTo(8)) * power(many + texts.upTo(3)) : digits;
    }

    private static long power(int of) {
        long power = 1;
        for (int i = 0; i < Math.min(of, 18); i++) {
            power *= 10;
        }
        return power;
    }

    private int intFor(String name, int i) {
        int places = naive.told(0);
        int camels = naive.told(1);
        if (texts.oneOf(25)) {
            return texts.any(List.of(-1, -2, 9, 10, 24, 25, 99, 100, 256, Integer.MIN_VALUE, Integer.MAX_VALUE));
        }
        int place = texts.upTo(texts.oneOf(15) ? places : places - 1);
        int camel = texts.upTo(texts.oneOf(15) ? camels : camels - 1);
        int bits = texts.upTo(texts.oneOf(15) ? 1 << camels : (1 << camels) - 1);
        switch (name + i) {
            case "place0", "road0", "road1", "grief0", "hurt0", "soothe0", "halt0", "value0", "would0", "least0",
                    "least1", "run0", "ran0", "ran1", "ranRow0", "visited0", "learnt0", "forgot0":
                return place;
            case "camel0", "grief1", "hurt1", "soothe1", "ran2", "learnt1", "forgot1", "quarrel0", "quarrel1":
                return camel;
            case "would1", "roped0", "lay0":
                return bits;
            case "compared0":
                return bits & 0x55;
            case "compared1":
                return texts.oneOf(9) ? bits : bits & 0xaa;
            case "hurt2":
                return texts.upTo(21);
            case "string0":
                return texts.oneOf(2) ? camels : texts.upTo(camels);
            case "lay1":
                return texts.upTo(texts.oneOf(4) ? 30 : 4);
            case "race0":
                return texts.upTo(30);
            case "doubt0", "span0":
                return random.nextInt();
            case "doubt1", "span1":
                return texts.upTo(9);
            case "span2":
                return texts.upTo(61);
            case "visited1":
                return texts.upTo(texts.oneOf(5) ? 1000 : 60);
            case "soon0", "light0":
                return texts.upTo(texts.oneOf(5) ? 10000 : 120);
            case "land0", "plan0":
                return texts.upTo(naive.count(1));
            default:
                return texts.upTo(texts.oneOf(12) ? 6 : mostWhat(name));
        }
    }

    private static int mostWhat(String name) {
        switch (name) {
            case "hours", "least", "span", "count": return 2;
            case "explain", "status": return 3;
            case "value": return 4;
            case "told", "run": return 5;
            case "row", "ranRow", "at", "stop", "whose": return 8;
            default: return 1;
        }
    }

    private void call(String name, Object... args) throws Exception {
        // Nothing is promised of an object behind so many calls.
        if (broken || calls >= CALLS) {
            return;
        }
        calls++;
        String got = answer(camels, named(name), args);
        String due = answer(naive, NaiveCamels.class.getMethod(name, named(name).getParameterTypes()), args);
        log.add(name + java.util.Arrays.toString(args) + " -> " + got);
        seen.merge(name + (got.startsWith("throws") ? "!" : got.equals("-1") ? "-" : ""), 1, Integer::sum);
        if (!got.equals(due)) {
            wrong++;
            broken = true;
            System.out.println("seed " + seed + ":");
            log.stream().filter(l -> !l.startsWith("feed")).forEach(System.out::println);
            System.out.println("    due is " + due);
        }
    }

    private static String answer(Object object, Method method, Object[] args) throws Exception {
        try {
            return String.valueOf(method.invoke(object, args));
        } catch (InvocationTargetException e) {
            return "throws " + e.getCause().getClass().getName();
        }
    }
}
