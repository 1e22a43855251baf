import java.util.ArrayDeque;
import java.util.ArrayList;
import java.util.Arrays;
import java.util.Collections;
import java.util.Deque;
import java.util.HashMap;
import java.util.List;
import java.util.Map;
import java.util.NoSuchElementException;
import java.util.TreeMap;
import java.util.function.Predicate;
import java.util.function.ToIntFunction;

/**
 * The document once more, told in the plainest way and with no heed to speed or room: what
 * GrievingCamels answers is held against this by ModelTest. It shares no code with the program.
 */
public final class NaiveCamels {
    static final class Fault extends RuntimeException {
        final int kind;
        final int where;

        Fault(int kind, int where) {
            this.kind = kind;
            this.where = where;
        }
    }

    record Halting(int most, int sum, int first, int last, int many) {
    }

    static final class World {
        final List<Integer> kinds = new ArrayList<>();
        final Map<List<Integer>, Integer> roads = new HashMap<>();
        final List<Integer> prices = new ArrayList<>();
        final Map<Integer, Integer> mothers = new HashMap<>();
        final List<List<Integer>> quarrels = new ArrayList<>();
        final Map<List<Integer>, Integer> hurts = new HashMap<>();
        ToIntFunction<Halting> law = Halting::most;
    }

    static final class Mind {
        final Map<List<Integer>, Integer> grief = new HashMap<>();
        final Map<List<Integer>, Integer> depth = new HashMap<>();

        Mind copy() {
            Mind other = new Mind();
            other.grief.putAll(grief);
            other.depth.putAll(depth);
            return other;
        }

        int griefOf(int place, int camel) {
            return grief.getOrDefault(List.of(place, camel), 0);
        }

        int depthOf(int place, int camel) {
            return depth.getOrDefault(List.of(place, camel), 0);
        }
    }

    record Line(List<Integer> camels, int hours) {
    }

    record Image(Mind mind, List<Integer> rope, List<Integer> journey, List<Line> lines, List<Mind> past) {
    }

    interface Step {
        void runIn(Tour tour);
    }

    final class Tour {
        Mind mind = now.copy();
        List<Integer> rope = new ArrayList<>(NaiveCamels.this.rope);
        int here;
        int hours;
        int lost;
        int steps;
        boolean worn;

        boolean counts() {
            if (worn || steps == 300) {
                worn = true;
                return false;
            }
            steps++;
            return true;
        }

        void all(List<Step> block) {
            for (Step step : block) {
                if (worn) {
                    return;
                }
                step.runIn(this);
            }
        }
    }

    private final Deque<Integer> tape = new ArrayDeque<>();
    private World world = new World();
    private Mind now = new Mind();
    private List<Integer> rope = new ArrayList<>();
    private List<Integer> journey = new ArrayList<>();
    private List<Line> lines = new ArrayList<>();
    private List<Mind> past = new ArrayList<>();
    private List<Step> plan = new ArrayList<>();
    private final Deque<Image> images = new ArrayDeque<>();
    private final int[] refused = new int[4];
    private int faultAt = -1;

    // ---- refusals

    private void places(int... places) {
        for (int p : places) {
            if (p < 0 || p >= world.kinds.size()) {
                refused[0]++;
                throw new IndexOutOfBoundsException();
            }
        }
    }

    private void camels(int... camels) {
        for (int c : camels) {
            if (c < 0 || c >= world.prices.size()) {
                refused[1]++;
                throw new NoSuchElementException();
            }
        }
    }

    private void arg(boolean good) {
        if (!good) {
            refused[2]++;
            throw new IllegalArgumentException();
        }
    }

    private void journeyTold() {
        if (journey.isEmpty()) {
            refused[3]++;
            throw new IllegalStateException();
        }
    }

    private static boolean in(int x, int least, int most) {
        return least <= x && x <= most;
    }

    private List<Integer> bits(int bits) {
        List<Integer> row = new ArrayList<>();
        for (int i = 0; i < 32; i++) {
            if ((bits & 1 << i) != 0) {
                row.add(i);
            }
        }
        return row;
    }

    private boolean known(int bits) {
        return bits(bits).stream().allMatch(c -> c < world.prices.size());
    }

    private static int asBits(List<Integer> row) {
        int bits = 0;
        for (int c : row) {
            bits += 1 << c;
        }
        return bits;
    }

    private static long digits(List<Integer> row) {
        long n = 0;
        for (int c : row) {
            n = 10 * n + c;
        }
        return n;
    }

    /** Null: the number, written with so many digits, is another one. */
    private static List<Integer> fromDigits(int many, long n) {
        String digits = n == 0 ? "" : Long.toString(n);
        if (n < 0 || digits.length() > many) {
            return null;
        }
        List<Integer> row = new ArrayList<>();
        for (char digit : ("0".repeat(many - digits.length()) + digits).toCharArray()) {
            row.add(digit - '0');
        }
        return row;
    }

    // ---- texts

    private final class Reader {
        final String text;
        int at = 0;
        int blocks = 0;
        int opened = 0;
        int stepsRead = 0;

        Reader(int n) {
            StringBuilder all = new StringBuilder();
            for (int b : tape) {
                all.append((char) b);
            }
            text = all.substring(0, n);
        }

        char peek() {
            while (at < text.length() && text.charAt(at) == ' ') {
                at++;
            }
            return at < text.length() ? text.charAt(at) : 0;
        }

        boolean ended() {
            peek();
            return at >= text.length();
        }

        boolean sign(char c) {
            if (!ended() && peek() == c) {
                at++;
                return true;
            }
            return false;
        }

        void needs(char c) {
            if (!sign(c)) {
                throw new Fault(1, at);
            }
        }

        String word() {
            peek();
            int from = at;
            while (at < text.length() && Character.toString(text.charAt(at)).matches("[a-z]")) {
                at++;
            }
            return text.substring(from, at);
        }

        int number(int least, int most) {
            peek();
            int from = at;
            while (at < text.length() && Character.toString(text.charAt(at)).matches("[0-9]")) {
                at++;
            }
            if (from == at) {
                throw new Fault(1, from);
            }
            java.math.BigInteger n = new java.math.BigInteger(text.substring(from, at));
            if (n.compareTo(java.math.BigInteger.valueOf(least)) < 0
                    || n.compareTo(java.math.BigInteger.valueOf(most)) > 0) {
                throw new Fault(2, from);
            }
            return n.intValue();
        }

        int unlike(int other, int most) {
            peek();
            int from = at;
            int n = number(0, most);
            if (n == other) {
                throw new Fault(2, from);
            }
            return n;
        }

        World world() {
            World w = new World();
            int clauses = 0;
            while (!ended()) {
                clause(w, clauses++);
                needs(';');
            }
            return w;
        }

        void clause(World w, int before) {
            int from = at;
            String word = word();
            int places = w.kinds.size();
            int camels = w.prices.size();
            if (!List.of("place", "road", "camel", "hurt", "calf", "quarrel", "law").contains(word)) {
                throw new Fault(1, from);
            }
            if (before == 60 || word.equals("place") && places == 10 || word.equals("camel") && camels == 8) {
                throw new Fault(3, from);
            }
            switch (word) {
                case "place" -> w.kinds.add(number(0, 3));
                case "camel" -> w.prices.add(number(0, 99));
                case "road" -> {
                    int a = number(0, places - 1);
                    int b = unlike(a, places - 1);
                    int h = number(1, 24);
                    w.roads.put(List.of(a, b), h);
                    w.roads.put(List.of(b, a), h);
                }
                case "hurt" -> {
                    int c = number(0, camels - 1);
                    int p = number(0, places - 1);
                    int h = number(1, 20);
                    w.hurts.merge(List.of(p, c), h, (x, y) -> x + y > 20 ? 20 : x + y);
                }
                case "calf" -> {
                    int c = number(0, camels - 1);
                    w.mothers.put(c, unlike(c, camels - 1));
                }
                case "quarrel" -> {
                    int c = number(0, camels - 1);
                    int d = unlike(c, camels - 1);
                    w.quarrels.add(List.of(c, d));
                    w.quarrels.add(List.of(d, c));
                }
                default -> w.law = sum();
            }
        }

        ToIntFunction<Halting> sum() {
            ToIntFunction<Halting> all = product();
            while (true) {
                ToIntFunction<Halting> left = all;
                if (sign('+')) {
                    ToIntFunction<Halting> right = product();
                    all = h -> left.applyAsInt(h) + right.applyAsInt(h);
                } else if (sign('-')) {
                    ToIntFunction<Halting> right = product();
                    all = h -> left.applyAsInt(h) - right.applyAsInt(h);
                } else {
                    return all;
                }
            }
        }

        ToIntFunction<Halting> product() {
            ToIntFunction<Halting> all = unit();
            while (sign('*')) {
                ToIntFunction<Halting> left = all;
                ToIntFunction<Halting> right = unit();
                all = h -> left.applyAsInt(h) * right.applyAsInt(h);
            }
            return all;
        }

        ToIntFunction<Halting> unit() {
            char c = peek();
            if (c == '(') {
                if (opened == 6) {
                    throw new Fault(3, at);
                }
                at++;
                opened++;
                ToIntFunction<Halting> inner = sum();
                needs(')');
                opened--;
                return inner;
            }
            if (c >= '0' && c <= '9') {
                int n = number(0, 99);
                return h -> n;
            }
            int from = at;
            return switch (word()) {
                case "most" -> Halting::most;
                case "sum" -> Halting::sum;
                case "first" -> Halting::first;
                case "last" -> Halting::last;
                case "many" -> Halting::many;
                default -> throw new Fault(1, from);
            };
        }

        List<Step> steps(boolean inBlock) {
            List<Step> all = new ArrayList<>();
            while (inBlock ? !sign(']') : !ended()) {
                all.add(step());
                needs(';');
            }
            return all;
        }

        List<Step> block() {
            if (peek() == '[' && blocks == 6) {
                throw new Fault(3, at);
            }
            needs('[');
            blocks++;
            List<Step> inner = steps(true);
            blocks--;
            return inner;
        }

        Step step() {
            peek();
            int from = at;
            String word = word();
            stepsRead++;
            int lastPlace = world.kinds.size() - 1;
            int lastCamel = world.prices.size() - 1;
            switch (word) {
                case "go": return plain(goTo(number(0, lastPlace)));
                case "wait": {
                    int n = number(0, 99);
                    return plain(t -> t.hours += n);
                }
                case "feed": return plain(t -> fodder(t.mind, t.rope));
                case "remind": return plain(t -> salt(t.mind, t.rope));
                case "drop": {
                    Integer c = number(0, lastCamel);
                    return plain(t -> t.rope.remove(c));
                }
                case "join": {
                    Integer c = number(0, lastCamel);
                    return plain(t -> {
                        if (!t.rope.contains(c)) {
                            t.rope.add(c);
                        }
                    });
                }
                case "lead": {
                    Integer c = number(0, lastCamel);
                    return plain(t -> {
                        t.rope.remove(c);
                        t.rope.add(0, c);
                    });
                }
                case "again": {
                    int n = number(0, 20);
                    List<Step> inner = block();
                    return plain(t -> {
                        for (int i = 0; i < n; i++) {
                            t.all(inner);
                        }
                    });
                }
                case "while": {
                    Predicate<Tour> test = test();
                    List<Step> inner = block();
                    return t -> {
                        while (t.counts() && test.test(t)) {
                            t.all(inner);
                        }
                    };
                }
                case "if": {
                    Predicate<Tour> test = test();
                    List<Step> yes = block();
                    List<Step> no = new ArrayList<>();
                    char c = peek();
                    if (c >= 'a' && c <= 'z') {
                        int other = at;
                        if (!word().equals("else")) {
                            throw new Fault(1, other);
                        }
                        no = block();
                    }
                    List<Step> otherwise = no;
                    return plain(t -> t.all(test.test(t) ? yes : otherwise));
                }
                default: throw new Fault(1, from);
            }
        }

        Step plain(Step what) {
            return t -> {
                if (t.counts()) {
                    what.runIn(t);
                }
            };
        }

        Step goTo(int place) {
            return t -> {
                Integer road = world.roads.get(List.of(t.here, place));
                if (road == null) {
                    t.lost++;
                } else {
                    t.here = place;
                    t.hours += road + haltIn(t.mind, t.rope, place);
                    arrive(t.mind, t.rope, place);
                }
            };
        }

        Predicate<Tour> test() {
            ToIntFunction<Tour> left = side();
            char relation = peek();
            if (ended() || "<>=".indexOf(relation) < 0) {
                throw new Fault(1, at);
            }
            at++;
            ToIntFunction<Tour> right = side();
            return t -> {
                int way = Integer.compare(left.applyAsInt(t), right.applyAsInt(t));
                return relation == '<' ? way < 0 : relation == '>' ? way > 0 : way == 0;
            };
        }

        ToIntFunction<Tour> side() {
            ToIntFunction<Tour> all = term();
            while (true) {
                ToIntFunction<Tour> left = all;
                if (sign('+')) {
                    ToIntFunction<Tour> right = term();
                    all = t -> left.applyAsInt(t) + right.applyAsInt(t);
                } else if (sign('-')) {
                    ToIntFunction<Tour> right = term();
                    all = t -> left.applyAsInt(t) - right.applyAsInt(t);
                } else {
                    return all;
                }
            }
        }

        ToIntFunction<Tour> term() {
            char c = peek();
            if (c >= '0' && c <= '9') {
                int n = number(0, 999);
                return t -> n;
            }
            int from = at;
            switch (word()) {
                case "here": return t -> t.here;
                case "hours": return t -> t.hours;
                case "halt": return t -> haltIn(t.mind, t.rope, t.here);
                case "row": return t -> t.rope.size();
                case "lost": return t -> t.lost;
                case "steps": return t -> t.steps - 1;
                case "grief": {
                    int camel = number(0, world.prices.size() - 1);
                    return t -> t.mind.griefOf(t.here, camel);
                }
                default: throw new Fault(1, from);
            }
        }
    }

    // ---- how camels halt, learn and forget

    private static Halting halting(List<Integer> griefs) {
        List<Integer> some = griefs.stream().filter(g -> g > 0).toList();
        if (some.isEmpty()) {
            return new Halting(0, 0, 0, 0, 0);
        }
        return new Halting(Collections.max(some), some.stream().mapToInt(g -> g).sum(),
                some.get(0), some.get(some.size() - 1), some.size());
    }

    private int haltBy(List<Integer> griefs, int needed) {
        Halting h = halting(griefs);
        if (h.many < needed || h.many == 0) {
            return 0;
        }
        int e = world.law.applyAsInt(h);
        return e < 0 ? 0 : e > 99 ? 99 : e;
    }

    private List<Integer> griefsOf(Mind mind, List<Integer> row, int place) {
        return row.stream().map(c -> mind.griefOf(place, c)).toList();
    }

    private int haltIn(Mind mind, List<Integer> row, int place) {
        return haltBy(griefsOf(mind, row, place), world.kinds.get(place) == 3 ? 3 : 1);
    }

    private void arrive(Mind mind, List<Integer> row, int place) {
        Mind coming = mind.copy();
        for (int calf : row) {
            Integer mother = world.mothers.get(calf);
            if (mother != null && row.contains(mother)) {
                int half = coming.griefOf(place, mother) / 2;
                if (half > coming.griefOf(place, calf)) {
                    mind.grief.put(List.of(place, calf), half);
                    if (half > mind.depthOf(place, calf)) {
                        mind.depth.put(List.of(place, calf), half);
                    }
                }
            }
        }
        if (world.kinds.get(place) == 1) {
            fodder(mind, row);
        }
        if (world.kinds.get(place) == 2) {
            salt(mind, row);
        }
    }

    private void fodder(Mind mind, List<Integer> row) {
        for (int c : row) {
            for (int p = 0; p < world.kinds.size(); p++) {
                if (mind.griefOf(p, c) > 0) {
                    mind.grief.merge(List.of(p, c), -1, Integer::sum);
                }
            }
        }
    }

    private void salt(Mind mind, List<Integer> row) {
        for (int c : row) {
            for (int p = 0; p < world.kinds.size(); p++) {
                int g = mind.griefOf(p, c);
                if (g > 0 && g + 1 <= mind.depthOf(p, c)) {
                    mind.grief.put(List.of(p, c), g + 1);
                }
            }
        }
    }

    private record Walk(int roads, List<Integer> halts, List<Mind> coming, Mind after) {
        int all() {
            return roads + halted();
        }

        int halted() {
            return halts.stream().mapToInt(h -> h).sum();
        }
    }

    private Walk walk(Mind from, List<Integer> row) {
        Mind mind = from.copy();
        int roads = 0;
        List<Integer> halts = new ArrayList<>(List.of(0));
        List<Mind> coming = new ArrayList<>();
        coming.add(mind.copy());
        for (int i = 1; i < journey.size(); i++) {
            int place = journey.get(i);
            roads += world.roads.get(List.of(journey.get(i - 1), place));
            coming.add(mind.copy());
            halts.add(haltIn(mind, row, place));
            arrive(mind, row, place);
        }
        return new Walk(roads, halts, coming, mind);
    }

    private List<Integer> without(List<Integer> row, int bits) {
        return row.stream().filter(c -> (bits & 1 << c) == 0).toList();
    }

    // ---- the face

    public int feed(int a, int b, int c, int d, int e) {
        if (tape.size() + 20 > 600) {
            return -1;
        }
        for (int n : new int[] {a, b, c, d, e}) {
            for (byte each : java.nio.ByteBuffer.allocate(4).putInt(n).array()) {
                tape.addLast(each & 255);
            }
        }
        return tape.size();
    }

    public int land(int n) {
        arg(in(n, 0, tape.size()));
        Reader reader = new Reader(n);
        tape.clear();
        faultAt = -1;
        try {
            world = reader.world();
        } catch (Fault f) {
            faultAt = f.where;
            return f.kind - 10;
        }
        now = new Mind();
        now.grief.putAll(world.hurts);
        now.depth.putAll(world.hurts);
        rope = new ArrayList<>();
        for (int c = 0; c < world.prices.size(); c++) {
            rope.add(c);
        }
        journey = new ArrayList<>();
        lines = new ArrayList<>();
        past = new ArrayList<>();
        plan = new ArrayList<>();
        images.clear();
        return world.prices.size();
    }

    public int fault() {
        return faultAt;
    }

    public int told(int what) {
        arg(in(what, 0, 5));
        return List.of(world.kinds.size(), world.prices.size(), rope.size(), journey.size(), lines.size(),
                past.size()).get(what);
    }

    public int place(int place) {
        places(place);
        return world.kinds.get(place);
    }

    public int road(int a, int b) {
        places(a, b);
        return world.roads.getOrDefault(List.of(a, b), -1);
    }

    public int camel(int camel, int what) {
        camels(camel);
        arg(in(what, 0, 1));
        return what == 0 ? world.prices.get(camel) : world.mothers.getOrDefault(camel, -1);
    }

    public int grief(int place, int camel, int what) {
        places(place);
        camels(camel);
        arg(in(what, 0, 1));
        return what == 0 ? now.griefOf(place, camel) : now.depthOf(place, camel);
    }

    public int hurt(int place, int camel, int hours) {
        places(place);
        camels(camel);
        arg(in(hours, 1, 20));
        now.grief.put(List.of(place, camel), Math.min(20, now.griefOf(place, camel) + hours));
        now.depth.put(List.of(place, camel), Math.min(20, now.depthOf(place, camel) + hours));
        return now.griefOf(place, camel);
    }

    public int soothe(int place, int camel) {
        places(place);
        camels(camel);
        int was = now.griefOf(place, camel);
        now.grief.remove(List.of(place, camel));
        return was;
    }

    public int string(int many, long row) {
        arg(in(many, 0, 8));
        List<Integer> told = fromDigits(many, row);
        if (told == null || told.stream().anyMatch(c -> c < 0 || c >= world.prices.size())
                || told.stream().distinct().count() < many) {
            return 0;
        }
        rope = told;
        return 1;
    }

    public int row(int i) {
        return in(i, 0, rope.size() - 1) ? rope.get(i) : -1;
    }

    public int halt(int place) {
        places(place);
        return haltIn(now, rope, place);
    }

    public int value(int place, int what) {
        places(place);
        arg(in(what, 0, 4));
        Halting h = halting(griefsOf(now, rope, place));
        return new int[] {h.most, h.sum, h.first, h.last, h.many}[what];
    }

    public int would(int place, int camels) {
        places(place);
        arg(known(camels));
        return haltIn(now, bits(camels), place);
    }

    public int route(int many, long places) {
        arg(in(many, 2, 12));
        List<Integer> told = fromDigits(many, places);
        if (told == null) {
            return -1;
        }
        int hours = 0;
        for (int i = 0; i < many; i++) {
            if (!in(told.get(i), 0, world.kinds.size() - 1)) {
                return -1;
            }
            if (i > 0) {
                Integer road = world.roads.get(List.of(told.get(i - 1), told.get(i)));
                if (road == null) {
                    return -1;
                }
                hours += road;
            }
        }
        journey = told;
        return hours;
    }

    public int at(int i) {
        return in(i, 0, journey.size() - 1) ? journey.get(i) : -1;
    }

    public int hours(int what) {
        arg(in(what, 0, 2));
        journeyTold();
        Walk walk = walk(now, rope);
        return what == 0 ? walk.all() : what == 1 ? walk.roads : walk.halted();
    }

    public int stop(int i) {
        journeyTold();
        return in(i, 0, journey.size() - 1) ? walk(now, rope).halts.get(i) : -1;
    }

    public int whose(int i) {
        journeyTold();
        if (!in(i, 1, journey.size() - 1)) {
            return -1;
        }
        List<Integer> griefs = griefsOf(walk(now, rope).coming.get(i), rope, journey.get(i));
        int most = griefs.isEmpty() ? 0 : Collections.max(griefs);
        return most == 0 ? -1 : rope.get(griefs.indexOf(most));
    }

    public int go() {
        journeyTold();
        if (past.size() == 24) {
            return -1;
        }
        past.add(now.copy());
        Walk walk = walk(now, rope);
        now = walk.after;
        return walk.all();
    }

    public int undo() {
        if (past.isEmpty()) {
            return -1;
        }
        now = past.remove(past.size() - 1);
        return past.size();
    }

    private static final int UNREACHED = 1 << 28;

    private int leastHours;
    private List<Integer> leastWay;

    private void seek(List<Integer> way, int hours, int to) {
        int here = way.get(way.size() - 1);
        if (here == to) {
            if (hours < leastHours) {
                leastHours = hours;
                leastWay = new ArrayList<>(way);
            }
            return;
        }
        for (int p = 0; p < world.kinds.size(); p++) {
            Integer road = world.roads.get(List.of(here, p));
            if (road != null && !way.contains(p)) {
                way.add(p);
                seek(way, hours + road + haltIn(now, rope, p), to);
                way.remove(way.size() - 1);
            }
        }
    }

    private void seekAll(int from, int to) {
        leastHours = UNREACHED;
        leastWay = null;
        seek(new ArrayList<>(List.of(from)), 0, to);
    }

    public long least(int from, int to, int what) {
        places(from, to);
        arg(in(what, 0, 2));
        seekAll(from, to);
        if (leastWay == null) {
            return -1;
        }
        return what == 0 ? leastHours : what == 1 ? leastWay.size() : digits(leastWay);
    }

    private void orders(List<Integer> ahead, List<Integer> left, List<List<Integer>> all) {
        if (left.isEmpty()) {
            all.add(new ArrayList<>(ahead));
        }
        for (Integer c : left) {
            if (!ahead.isEmpty() && world.quarrels.contains(List.of(ahead.get(ahead.size() - 1), c))) {
                continue;
            }
            ahead.add(c);
            orders(ahead, left.stream().filter(d -> !d.equals(c)).toList(), all);
            ahead.remove(ahead.size() - 1);
        }
    }

    public int roped(int camels, int what) {
        arg(camels != 0 && known(camels) && bits(camels).size() <= 6 && in(what, 0, 1));
        journeyTold();
        List<List<Integer>> all = new ArrayList<>();
        orders(new ArrayList<>(), bits(camels), all);
        int least = Integer.MAX_VALUE;
        List<Integer> best = null;
        for (List<Integer> order : all) {
            int hours = walk(now, order).all();
            if (hours < least) {
                least = hours;
                best = order;
            }
        }
        return best == null ? -1 : what == 0 ? least : (int) digits(best);
    }

    public int parted(int what) {
        arg(in(what, 0, 1));
        journeyTold();
        TreeMap<Integer, Integer> byBits = new TreeMap<>();
        int all = asBits(rope);
        for (int b = 0; b < 256; b++) {
            if (!rope.isEmpty() && (b & all) == b && (b & 1 << rope.get(0)) != 0) {
                int one = walk(now, without(rope, ~b)).all();
                int two = b == all ? 0 : walk(now, without(rope, b)).all();
                byBits.put(b, Math.max(one, two));
            }
        }
        return byBits.entrySet().stream().min(Map.Entry.comparingByValue())
                .map(e -> what == 0 ? e.getValue() : e.getKey()).orElse(0);
    }

    public int sell(int what) {
        arg(in(what, 0, 1));
        journeyTold();
        int sold = -1;
        int hours = -1;
        for (int c : rope) {
            int h = walk(now, without(rope, 1 << c)).all();
            boolean better = sold < 0 || h < hours;
            boolean dearer = sold >= 0 && h == hours && world.prices.get(c) > world.prices.get(sold);
            if (better || dearer) {
                sold = c;
                hours = h;
            }
        }
        return what == 0 ? sold : hours;
    }

    public int heal(int what) {
        arg(in(what, 0, 1));
        journeyTold();
        int best = -1;
        int hours = 0;
        for (int p = 0; p < world.kinds.size(); p++) {
            Mind mind = now.copy();
            for (int c = 0; c < 8; c++) {
                mind.grief.remove(List.of(p, c));
            }
            int h = walk(mind, rope).all();
            if (best < 0 || h < hours) {
                best = p;
                hours = h;
            }
        }
        return what == 0 ? best : hours;
    }

    public int lay(int camels, int hours) {
        arg(known(camels) && in(hours, 0, 99));
        if (lines.size() == 9) {
            return -1;
        }
        lines.add(new Line(bits(camels), hours));
        return lines.size();
    }

    public int clear() {
        int n = lines.size();
        lines.clear();
        return n;
    }

    public int explain(int what) {
        arg(in(what, 0, 3));
        int guessed = Math.min(6, world.prices.size());
        int codes = (int) Math.round(Math.pow(6, guessed));
        int found = 0;
        int first = -1;
        int sure = (1 << guessed) - 1;
        int clear = sure;
        for (int code = 0; code < codes; code++) {
            int[] guess = new int[8];
            int left = code;
            for (int c = guessed - 1; c >= 0; c--) {
                guess[c] = left % 6;
                left /= 6;
            }
            boolean so = true;
            for (Line line : lines) {
                so = so && haltBy(line.camels.stream().map(c -> guess[c]).toList(), 1) == line.hours;
            }
            if (so) {
                found++;
                first = first < 0 ? code : first;
                for (int c = 0; c < guessed; c++) {
                    if (guess[c] == 0) {
                        sure &= ~(1 << c);
                    } else {
                        clear &= ~(1 << c);
                    }
                }
            }
        }
        return new int[] {found, first, found == 0 ? 0 : sure, found == 0 ? 0 : clear}[what];
    }

    public int compared(int camels, int others) {
        arg(known(camels) && known(others) && (camels & others) == 0);
        int more = 0;
        for (int p = 0; p < world.kinds.size(); p++) {
            int place = p;
            for (int side = 0; side < 2; side++) {
                List<Integer> mine = bits(side == 0 ? camels : others);
                List<Integer> theirs = bits(side == 0 ? others : camels);
                int half = theirs.stream().mapToInt(c -> now.griefOf(place, c)).max().orElse(0) / 2;
                for (int c : mine) {
                    more += Math.max(now.griefOf(place, c), half) - now.griefOf(place, c);
                }
            }
        }
        return more;
    }

    public int race(int late) {
        arg(in(late, 0, 99));
        journeyTold();
        Walk walk = walk(now, rope);
        int heartless = late;
        int string = 0;
        for (int i = 1; i < journey.size(); i++) {
            int road = world.roads.get(List.of(journey.get(i - 1), journey.get(i)));
            heartless += road;
            string += road + walk.halts.get(i);
            if (heartless <= string) {
                return i;
            }
        }
        return -1;
    }

    public int doubt(int seed, int q) {
        arg(in(q, 0, 8));
        journeyTold();
        int hours = walk(now, rope).all();
        long s = seed & 0xffffffffL;
        for (int i = 1; i < journey.size(); i++) {
            s = (s * 1103515245L + 12345L) % 4294967296L;
            if (s / 65536 % 8 < q) {
                hours++;
            }
        }
        return hours;
    }

    public int span(int seed, int q, int many, int what) {
        arg(in(q, 0, 8) && in(many, 1, 60) && in(what, 0, 2));
        journeyTold();
        List<Integer> all = new ArrayList<>();
        for (int i = 0; i < many; i++) {
            all.add(doubt(seed + i, q));
        }
        return what == 0 ? Collections.min(all) : what == 1 ? Collections.max(all)
                : all.stream().mapToInt(h -> h).sum();
    }

    public int plan(int n) {
        arg(in(n, 0, Math.min(200, tape.size())));
        Reader reader = new Reader(n);
        tape.clear();
        faultAt = -1;
        try {
            plan = reader.steps(false);
            return reader.stepsRead;
        } catch (Fault f) {
            faultAt = f.where;
            return f.kind - 10;
        }
    }

    private Tour tour(int from) {
        Tour tour = new Tour();
        tour.here = from;
        tour.all(plan);
        return tour;
    }

    public int run(int from, int what) {
        places(from);
        arg(in(what, 0, 5));
        Tour t = tour(from);
        return List.of(t.hours, t.here, t.lost, t.steps, t.worn ? 1 : 0, t.rope.size()).get(what);
    }

    public int ran(int from, int place, int camel) {
        places(from, place);
        camels(camel);
        return tour(from).mind.griefOf(place, camel);
    }

    public int ranRow(int from, int i) {
        places(from);
        List<Integer> behind = tour(from).rope;
        return in(i, 0, behind.size() - 1) ? behind.get(i) : -1;
    }

    public int begin() {
        int best = -1;
        int hours = 0;
        for (int p = 0; p < world.kinds.size(); p++) {
            int h = tour(p).hours;
            if (best < 0 || h < hours) {
                best = p;
                hours = h;
            }
        }
        return best;
    }

    /** Relaxes (set, place) by single roads until nothing gets less. */
    public int visited(int from, int hours, int what) {
        places(from);
        arg(in(hours, 0, 999) && in(what, 0, 1));
        int places = world.kinds.size();
        int[][] hoursTo = new int[1 << places][places];
        for (int[] each : hoursTo) {
            Arrays.fill(each, UNREACHED);
        }
        hoursTo[1 << from][from] = 0;
        int[] halts = new int[places];
        for (int p = 0; p < places; p++) {
            halts[p] = haltIn(now, rope, p);
        }
        boolean changed = true;
        while (changed) {
            changed = false;
            for (int set = 0; set < 1 << places; set++) {
                for (int a = 0; a < places; a++) {
                    for (int b = 0; b < places; b++) {
                        Integer road = hoursTo[set][a] == UNREACHED ? null : world.roads.get(List.of(a, b));
                        if (road != null && hoursTo[set][a] + road + halts[b] < hoursTo[set | 1 << b][b]) {
                            hoursTo[set | 1 << b][b] = hoursTo[set][a] + road + halts[b];
                            changed = true;
                        }
                    }
                }
            }
        }
        int best = 0;
        for (int set = 0; set < 1 << places; set++) {
            boolean within = Arrays.stream(hoursTo[set]).anyMatch(h -> h <= hours);
            if (within && Integer.bitCount(set) > Integer.bitCount(best)) {
                best = set;
            }
        }
        return what == 0 ? Integer.bitCount(best) : best;
    }

    public int widest(int what) {
        arg(in(what, 0, 1));
        int hours = -1;
        int pair = -1;
        for (int a = 0; a < world.kinds.size(); a++) {
            for (int b = 0; b < world.kinds.size(); b++) {
                if (a != b) {
                    seekAll(a, b);
                    if (leastWay != null && leastHours > hours) {
                        hours = leastHours;
                        pair = 10 * a + b;
                    }
                }
            }
        }
        return what == 0 ? hours : pair;
    }

    private int goings(Predicate<Walk> until) {
        Mind mind = now;
        for (int i = 1; i <= 24; i++) {
            Walk walk = walk(mind, rope);
            if (until.test(walk)) {
                return i;
            }
            mind = walk.after;
        }
        return -1;
    }

    public int learnt(int place, int camel) {
        places(place);
        camels(camel);
        journeyTold();
        return goings(w -> w.after.griefOf(place, camel) > 0);
    }

    public int forgot(int place, int camel) {
        places(place);
        camels(camel);
        journeyTold();
        return goings(w -> w.after.griefOf(place, camel) == 0);
    }

    public int soon(int hours) {
        arg(in(hours, 0, 9999));
        journeyTold();
        return goings(w -> w.all() <= hours);
    }

    public boolean quarrel(int camel, int other) {
        camels(camel, other);
        arg(camel != other);
        return world.quarrels.contains(List.of(camel, other));
    }

    public int shy() {
        int pairs = 0;
        for (int i = 0; i + 1 < rope.size(); i++) {
            if (world.quarrels.contains(List.of(rope.get(i), rope.get(i + 1)))) {
                pairs++;
            }
        }
        return pairs;
    }

    public int heavy() {
        journeyTold();
        List<Integer> halts = walk(now, rope).halts;
        List<Integer> behind = halts.subList(1, halts.size());
        return 1 + behind.indexOf(Collections.max(behind));
    }

    public int light(int hours) {
        arg(in(hours, 0, 9999));
        journeyTold();
        for (int taken = 0; taken <= rope.size(); taken++) {
            for (int b = 0; b < 256; b++) {
                if (Integer.bitCount(b) == taken && rope.containsAll(bits(b))
                        && walk(now, without(rope, b)).all() <= hours) {
                    return b;
                }
            }
        }
        return -1;
    }

    public int image() {
        if (images.size() == 3) {
            return -1;
        }
        images.push(new Image(now.copy(), new ArrayList<>(rope), new ArrayList<>(journey), new ArrayList<>(lines),
                past.stream().map(Mind::copy).toList()));
        return images.size();
    }

    public int restore() {
        if (images.isEmpty()) {
            return -1;
        }
        Image image = images.pop();
        now = image.mind;
        rope = image.rope;
        journey = image.journey;
        lines = image.lines;
        past = new ArrayList<>(image.past);
        return images.size();
    }

    public int status(int what) {
        return in(what, 0, 3) ? refused[what] : -1;
    }

    public int count(int what) {
        return what == 0 ? images.size() : what == 1 ? tape.size() : what == 2 ? past.size() : -1;
    }
}
