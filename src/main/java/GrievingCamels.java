import java.util.NoSuchElementException;

/** Camels who remember: what hurt them where, and how long they halt there. See README.md. */
public final class GrievingCamels {
    public static final int NONE = -1;

    private static final int MOST_PLACES = 10;
    private static final int MOST_CAMELS = 8;
    private static final int CELLS = MOST_PLACES * MOST_CAMELS;
    private static final int MOST_GRIEF = 20;
    private static final int MOST_HALT = 99;
    private static final int MOST_STOPS = 12;
    private static final int MOST_ROPED = 6;
    private static final int MOST_GOINGS = 24;
    private static final int MOST_LINES = 9;
    private static final int MOST_IMAGES = 3;
    private static final int MOST_PLAN_BYTES = 200;

    private static final int FAULT_SIGN = 1;
    private static final int FAULT_NUMBER = 2;
    private static final int FAULT_MANY = 3;

    private static final int FODDER = 1;
    private static final int SALT = 2;
    private static final int MIRAGE = 3;

    private static final int REFUSED_INDEX = 0;
    private static final int REFUSED_ELEMENT = 1;
    private static final int REFUSED_ARGUMENT = 2;
    private static final int REFUSED_STATE = 3;

    private final Tape tape = new Tape();
    private final int[] refusals = new int[4];
    private final State now = new State();
    private final State[] images = new State[MOST_IMAGES];
    private final Trip trip = new Trip();
    private final Ways ways = new Ways();
    private final Row chosen = new Row();
    private final Row best = new Row();
    private final Herd healed = new Herd();
    private Land land = new Land();
    private Land spareLand = new Land();
    private Plan plan = new Plan();
    private Plan sparePlan = new Plan();
    private final Runner runner = new Runner(land, plan);
    private final Explainer explainer = new Explainer(land, now);
    private int imageCount = 0;

    public GrievingCamels() {
        for (int i = 0; i < MOST_IMAGES; i++) {
            images[i] = new State();
        }
    }

    // ---- the land

    public int feed(int a, int b, int c, int d, int e) {
        if (!tape.hasRoomFor(20)) {
            return NONE;
        }
        tape.put(a);
        tape.put(b);
        tape.put(c);
        tape.put(d);
        tape.put(e);
        return tape.fed;
    }

    public int land(int n) throws IllegalArgumentException {
        need(n >= 0 && n <= tape.fed);
        tape.open(n);
        boolean good = spareLand.readFrom(tape);
        tape.close();
        if (!good) {
            return tape.faultKind - 10;
        }
        Land old = land;
        land = spareLand;
        spareLand = old;
        now.beginIn(land);
        plan.forget();
        imageCount = 0;
        explainer.stale = true;
        return land.camels;
    }

    public int fault() {
        return tape.faultAt;
    }

    public int told(int what) throws IllegalArgumentException {
        need(what >= 0 && what <= 5);
        switch (what) {
            case 0: return land.places;
            case 1: return land.camels;
            case 2: return now.rope.many;
            case 3: return now.journey.many;
            case 4: return now.lines;
            default: return now.gone;
        }
    }

    public int place(int place) throws IndexOutOfBoundsException {
        needPlace(place);
        return land.kinds[place];
    }

    public int road(int a, int b) throws IndexOutOfBoundsException {
        needPlace(a);
        needPlace(b);
        int hours = land.roadHours(a, b);
        return hours > 0 ? hours : NONE;
    }

    public int camel(int camel, int what) throws NoSuchElementException, IllegalArgumentException {
        needCamel(camel);
        needWhat(what, 1);
        return what == 0 ? land.prices[camel] : land.mothers[camel];
    }

    public boolean quarrel(int camel, int other) throws NoSuchElementException, IllegalArgumentException {
        needCamel(camel);
        needCamel(other);
        need(camel != other);
        return land.areAtOdds(camel, other);
    }

    // ---- griefs and the string

    public int grief(int place, int camel, int what)
            throws IndexOutOfBoundsException, NoSuchElementException, IllegalArgumentException {
        needPlace(place);
        needCamel(camel);
        needWhat(what, 1);
        return what == 0 ? now.herd.griefAt(place, camel) : now.herd.depthAt(place, camel);
    }

    public int hurt(int place, int camel, int hours)
            throws IndexOutOfBoundsException, NoSuchElementException, IllegalArgumentException {
        needPlace(place);
        needCamel(camel);
        need(hours >= 1 && hours <= MOST_GRIEF);
        now.herd.suffer(place, camel, hours);
        return now.herd.griefAt(place, camel);
    }

    public int soothe(int place, int camel) throws IndexOutOfBoundsException, NoSuchElementException {
        needPlace(place);
        needCamel(camel);
        int was = now.herd.griefAt(place, camel);
        now.herd.comfort(place, camel);
        return was;
    }

    public int string(int many, long row) throws IllegalArgumentException {
        need(many >= 0 && many <= MOST_CAMELS);
        if (!chosen.takeDigits(many, row, land.camels) || chosen.holdsOneTwice()) {
            return 0;
        }
        now.rope.copyFrom(chosen);
        return 1;
    }

    public int row(int i) {
        return now.rope.itemAt(i);
    }

    public int halt(int place) throws IndexOutOfBoundsException {
        needPlace(place);
        return land.haltAt(place, now.rope, now.herd);
    }

    public int value(int place, int what) throws IndexOutOfBoundsException, IllegalArgumentException {
        needPlace(place);
        needWhat(what, 4);
        land.law.measure(now.rope, now.herd.griefs, place * MOST_CAMELS);
        return land.law.values[what];
    }

    public int would(int place, int camels) throws IndexOutOfBoundsException, IllegalArgumentException {
        needPlace(place);
        need(land.hasAll(camels));
        chosen.takeBits(camels);
        return land.haltAt(place, chosen, now.herd);
    }

    public int shy() {
        return land.quarrelsIn(now.rope);
    }

    // ---- the journey

    public int route(int many, long places) throws IllegalArgumentException {
        need(many >= 2 && many <= MOST_STOPS);
        if (!chosen.takeDigits(many, places, land.places)) {
            return NONE;
        }
        int hours = land.roadsOf(chosen);
        if (hours >= 0) {
            now.journey.copyFrom(chosen);
        }
        return hours;
    }

    public int at(int i) {
        return now.journey.itemAt(i);
    }

    public int hours(int what) throws IllegalArgumentException, IllegalStateException {
        needWhat(what, 2);
        needJourney();
        walkNow();
        switch (what) {
            case 0: return trip.hoursInAll();
            case 1: return trip.roads;
            default: return trip.halted;
        }
    }

    public int stop(int i) throws IllegalStateException {
        needJourney();
        if (i < 0 || i >= now.journey.many) {
            return NONE;
        }
        walkNow();
        return trip.halts[i];
    }

    public int whose(int i) throws IllegalStateException {
        needJourney();
        if (i < 1 || i >= now.journey.many) {
            return NONE;
        }
        walkNow();
        return trip.mostGrieved(now.rope, i);
    }

    public int heavy() throws IllegalStateException {
        needJourney();
        walkNow();
        int heaviest = 1;
        for (int i = 2; i < now.journey.many; i++) {
            if (trip.halts[i] > trip.halts[heaviest]) {
                heaviest = i;
            }
        }
        return heaviest;
    }

    public int go() throws IllegalStateException {
        needJourney();
        if (now.gone >= MOST_GOINGS) {
            return NONE;
        }
        walkNow();
        now.keepForUndo();
        now.herd.copyFrom(trip.herd);
        return trip.hoursInAll();
    }

    public int undo() {
        return now.takeBack() ? now.gone : NONE;
    }

    public int race(int late) throws IllegalArgumentException, IllegalStateException {
        need(late >= 0 && late <= 99);
        needJourney();
        walkNow();
        int halted = 0;
        for (int i = 1; i < now.journey.many; i++) {
            halted += trip.halts[i];
            if (late <= halted) {
                return i;
            }
        }
        return NONE;
    }

    public int doubt(int seed, int q) throws IllegalArgumentException, IllegalStateException {
        needDraw(q);
        needJourney();
        walkNow();
        return trip.hoursInAll() + delays(seed, q);
    }

    public int span(int seed, int q, int many, int what) throws IllegalArgumentException, IllegalStateException {
        needDraw(q);
        need(many >= 1 && many <= 60);
        needWhat(what, 2);
        needJourney();
        walkNow();
        int least = Integer.MAX_VALUE;
        int greatest = 0;
        int all = 0;
        for (int i = 0; i < many; i++) {
            int hours = trip.hoursInAll() + delays(seed + i, q);
            least = Math.min(least, hours);
            greatest = Math.max(greatest, hours);
            all += hours;
        }
        return what == 0 ? least : what == 1 ? greatest : all;
    }

    // ---- what would be best

    public long least(int from, int to, int what) throws IndexOutOfBoundsException, IllegalArgumentException {
        needPlace(from);
        needPlace(to);
        needWhat(what, 2);
        ways.measure(land, now);
        int hours = ways.hoursBetween(from, to);
        if (what == 0 || hours < 0) {
            return hours;
        }
        ways.follow(land, from, to, chosen);
        return what == 1 ? chosen.many : chosen.asDigits();
    }

    public int widest(int what) throws IllegalArgumentException {
        needWhat(what, 1);
        ways.measure(land, now);
        int hours = NONE;
        int pair = NONE;
        for (int a = 0; a < land.places; a++) {
            for (int b = 0; b < land.places; b++) {
                if (a != b && ways.hoursBetween(a, b) > hours) {
                    hours = ways.hoursBetween(a, b);
                    pair = a * 10 + b;
                }
            }
        }
        return what == 0 ? hours : pair;
    }

    public int visited(int from, int hours, int what) throws IndexOutOfBoundsException, IllegalArgumentException {
        needPlace(from);
        need(hours >= 0 && hours <= 999);
        needWhat(what, 1);
        ways.measure(land, now);
        int places = ways.mostWithin(land.places, from, hours);
        return what == 0 ? Integer.bitCount(places) : places;
    }

    public int roped(int camels, int what) throws IllegalArgumentException, IllegalStateException {
        need(camels != 0 && land.hasAll(camels) && Integer.bitCount(camels) <= MOST_ROPED);
        needWhat(what, 1);
        needJourney();
        int hours = rope(camels);
        if (hours < 0) {
            return NONE;
        }
        return what == 0 ? hours : (int) best.asDigits();
    }

    public int parted(int what) throws IllegalArgumentException, IllegalStateException {
        needWhat(what, 1);
        needJourney();
        int all = now.rope.asBits();
        if (all == 0) {
            return 0;
        }
        int first = 1 << now.rope.itemAt(0);
        int leastHours = Integer.MAX_VALUE;
        int leastBits = 0;
        for (int bits = first; bits <= all; bits++) {
            if ((bits & ~all) == 0 && (bits & first) != 0) {
                int hours = Math.max(hoursWith(bits), bits == all ? 0 : hoursWith(all & ~bits));
                if (hours < leastHours) {
                    leastHours = hours;
                    leastBits = bits;
                }
            }
        }
        return what == 0 ? leastHours : leastBits;
    }

    public int sell(int what) throws IllegalArgumentException, IllegalStateException {
        needWhat(what, 1);
        needJourney();
        int all = now.rope.asBits();
        int sold = NONE;
        int leastHours = NONE;
        for (int i = 0; i < now.rope.many; i++) {
            int camel = now.rope.itemAt(i);
            int hours = hoursWith(all & ~(1 << camel));
            if (sold < 0 || hours < leastHours
                    || hours == leastHours && land.prices[camel] > land.prices[sold]) {
                sold = camel;
                leastHours = hours;
            }
        }
        return what == 0 ? sold : leastHours;
    }

    public int heal(int what) throws IllegalArgumentException, IllegalStateException {
        needWhat(what, 1);
        needJourney();
        int leastPlace = NONE;
        int leastHours = NONE;
        for (int place = 0; place < land.places; place++) {
            healed.copyFrom(now.herd);
            healed.healAt(place);
            trip.walk(land, now.journey, now.rope, healed);
            if (leastPlace < 0 || trip.hoursInAll() < leastHours) {
                leastPlace = place;
                leastHours = trip.hoursInAll();
            }
        }
        return what == 0 ? leastPlace : leastHours;
    }

    public int light(int hours) throws IllegalArgumentException, IllegalStateException {
        needHours(hours);
        needJourney();
        int all = now.rope.asBits();
        int fewest = NONE;
        for (int bits = 0; bits <= all; bits++) {
            boolean fewer = fewest < 0 || Integer.bitCount(bits) < Integer.bitCount(fewest);
            if ((bits & ~all) == 0 && fewer && hoursWith(all & ~bits) <= hours) {
                fewest = bits;
            }
        }
        return fewest;
    }

    // ---- what is to come

    public int learnt(int place, int camel)
            throws IndexOutOfBoundsException, NoSuchElementException, IllegalStateException {
        needPlace(place);
        needCamel(camel);
        needJourney();
        return goingsUntil(place, camel, true);
    }

    public int forgot(int place, int camel)
            throws IndexOutOfBoundsException, NoSuchElementException, IllegalStateException {
        needPlace(place);
        needCamel(camel);
        needJourney();
        return goingsUntil(place, camel, false);
    }

    public int soon(int hours) throws IllegalArgumentException, IllegalStateException {
        needHours(hours);
        needJourney();
        Herd herd = now.herd;
        for (int goings = 1; goings <= MOST_GOINGS; goings++) {
            trip.walk(land, now.journey, now.rope, herd);
            if (trip.hoursInAll() <= hours) {
                return goings;
            }
            herd = trip.herd;
        }
        return NONE;
    }

    // ---- what was seen

    public int lay(int camels, int hours) throws IllegalArgumentException {
        need(land.hasAll(camels));
        need(hours >= 0 && hours <= MOST_HALT);
        if (!now.addLine(camels, hours)) {
            return NONE;
        }
        explainer.stale = true;
        return now.lines;
    }

    public int clear() {
        int were = now.lines;
        now.lines = 0;
        explainer.stale = true;
        return were;
    }

    public int explain(int what) throws IllegalArgumentException {
        needWhat(what, 3);
        explainer.explainAll(land);
        switch (what) {
            case 0: return explainer.found;
            case 1: return explainer.first;
            case 2: return explainer.sureBits();
            default: return explainer.clearBits();
        }
    }

    public int compared(int camels, int others) throws IllegalArgumentException {
        need(land.hasAll(camels) && land.hasAll(others));
        need((camels & others) == 0);
        int more = 0;
        for (int place = 0; place < land.places; place++) {
            more += now.herd.wouldLearn(place, camels, now.herd.greatestOf(place, others) / 2);
            more += now.herd.wouldLearn(place, others, now.herd.greatestOf(place, camels) / 2);
        }
        return more;
    }

    // ---- plans

    public int plan(int n) throws IllegalArgumentException {
        need(n >= 0 && n <= tape.fed && n <= MOST_PLAN_BYTES);
        tape.open(n);
        sparePlan.forget();
        boolean good = sparePlan.readSteps(tape, land, 0);
        tape.close();
        if (!good) {
            return tape.faultKind - 10;
        }
        Plan old = plan;
        plan = sparePlan;
        sparePlan = old;
        return plan.steps;
    }

    public int run(int from, int what) throws IndexOutOfBoundsException, IllegalArgumentException {
        needPlace(from);
        needWhat(what, 5);
        runner.runFrom(land, plan, now, from);
        switch (what) {
            case 0: return runner.hours;
            case 1: return runner.here;
            case 2: return runner.lost;
            case 3: return runner.steps;
            case 4: return runner.worn ? 1 : 0;
            default: return runner.rope.many;
        }
    }

    public int ran(int from, int place, int camel) throws IndexOutOfBoundsException, NoSuchElementException {
        needPlace(from);
        needPlace(place);
        needCamel(camel);
        runner.runFrom(land, plan, now, from);
        return runner.herd.griefAt(place, camel);
    }

    public int ranRow(int from, int i) throws IndexOutOfBoundsException {
        needPlace(from);
        runner.runFrom(land, plan, now, from);
        return runner.rope.itemAt(i);
    }

    public int begin() {
        int first = NONE;
        int leastHours = 0;
        for (int place = 0; place < land.places; place++) {
            runner.runFrom(land, plan, now, place);
            if (first < 0 || runner.hours < leastHours) {
                first = place;
                leastHours = runner.hours;
            }
        }
        return first;
    }

    // ---- images and counts

    public int image() {
        if (imageCount >= MOST_IMAGES) {
            return NONE;
        }
        images[imageCount].copyFrom(now);
        imageCount++;
        return imageCount;
    }

    public int restore() {
        if (imageCount <= 0) {
            return NONE;
        }
        imageCount--;
        now.copyFrom(images[imageCount]);
        explainer.stale = true;
        return imageCount;
    }

    public int status(int what) {
        return what >= 0 && what < refusals.length ? refusals[what] : NONE;
    }

    public int count(int what) {
        switch (what) {
            case 0: return imageCount;
            case 1: return tape.fed;
            case 2: return now.gone;
            default: return NONE;
        }
    }

    // ---- refusals

    private void needPlace(int place) {
        if (place < 0 || place >= land.places) {
            refusals[REFUSED_INDEX]++;
            throw new IndexOutOfBoundsException("no such place");
        }
    }

    private void needCamel(int camel) {
        if (camel < 0 || camel >= land.camels) {
            refusals[REFUSED_ELEMENT]++;
            throw new NoSuchElementException("no such camel");
        }
    }

    private void need(boolean good) {
        if (!good) {
            refusals[REFUSED_ARGUMENT]++;
            throw new IllegalArgumentException("no such argument");
        }
    }

    private void needWhat(int what, int most) {
        need(what >= 0 && what <= most);
    }

    private void needHours(int hours) {
        need(hours >= 0 && hours <= 9999);
    }

    private void needDraw(int q) {
        need(q >= 0 && q <= 8);
    }

    private void needJourney() {
        if (now.journey.many == 0) {
            refusals[REFUSED_STATE]++;
            throw new IllegalStateException("there is no journey");
        }
    }

    // ---- parts of the answers

    private void walkNow() {
        trip.walk(land, now.journey, now.rope, now.herd);
    }

    /** Hours of the journey with those of the string alone that the bits name. */
    private int hoursWith(int bits) {
        chosen.takeFrom(now.rope, bits);
        trip.walk(land, now.journey, chosen, now.herd);
        return trip.hoursInAll();
    }

    /** Puts the best roping into best; NONE if the quarrels leave none. */
    private int rope(int camels) {
        chosen.takeBits(camels);
        // What is learnt and forgotten hangs on who goes, not on the order: one walk does for all rows.
        trip.walk(land, now.journey, chosen, now.herd);
        int leastHours = NONE;
        for (int orders = 0; orders < 720; orders++) {
            if (land.quarrelsIn(chosen) == 0) {
                int hours = trip.hoursInOrder(land, now.journey, chosen);
                if (leastHours < 0 || hours < leastHours) {
                    leastHours = hours;
                    best.copyFrom(chosen);
                }
            }
            if (!chosen.turnToNextOrder()) {
                break;
            }
        }
        return leastHours;
    }

    private int delays(int seed, int q) {
        int late = 0;
        int drawn = seed;
        for (int i = 1; i < now.journey.many; i++) {
            drawn = drawn * 1103515245 + 12345;
            if (((drawn >>> 16) & 7) < q) {
                late++;
            }
        }
        return late;
    }

    private int goingsUntil(int place, int camel, boolean grieved) {
        Herd herd = now.herd;
        for (int goings = 1; goings <= MOST_GOINGS; goings++) {
            trip.walk(land, now.journey, now.rope, herd);
            herd = trip.herd;
            if (herd.griefAt(place, camel) > 0 == grieved) {
                return goings;
            }
        }
        return NONE;
    }

    /**
     * The bytes that were fed, and a reader of the first ones of them as a text. The reader stands
     * on the first byte that is no blank behind all that it has read.
     */
    private static final class Tape {
        private static final int MOST_BYTES = 600;
        private static final int BLANK = 32;
        /** Above every number that a text may tell. */
        private static final int FAR_NUMBER = 100000;

        final int[] bytes = new int[MOST_BYTES];
        int fed = 0;
        int length = 0;
        int at = 0;
        int wordFrom = 0;
        int wordEnd = 0;
        int numberFrom = 0;
        int faultKind = 0;
        int faultAt = NONE;

        boolean hasRoomFor(int more) {
            return fed + more <= MOST_BYTES;
        }

        void put(int number) {
            for (int shift = 24; shift >= 0; shift -= 8) {
                if (fed < MOST_BYTES) {
                    bytes[fed] = (number >>> shift) & 255;
                    fed++;
                }
            }
        }

        void open(int n) {
            length = Math.max(0, Math.min(n, fed));
            at = 0;
            faultKind = 0;
            faultAt = NONE;
            skipBlanks();
        }

        void close() {
            fed = 0;
        }

        boolean fail(int kind, int where) {
            faultKind = kind;
            faultAt = where;
            return false;
        }

        boolean failHere(int kind) {
            return fail(kind, at);
        }

        boolean failAtWord(int kind) {
            return fail(kind, wordFrom);
        }

        boolean failAtNumber(int kind) {
            return fail(kind, numberFrom);
        }

        boolean hasEnded() {
            return at >= length;
        }

        boolean isSign(int sign) {
            return at < length && bytes[at] == sign;
        }

        boolean takesSign(int sign) {
            if (at >= length || bytes[at] != sign) {
                return false;
            }
            at++;
            skipBlanks();
            return true;
        }

        boolean needsSign(int sign) {
            return takesSign(sign) || fail(FAULT_SIGN, at);
        }

        boolean startsNumber() {
            return at < length && bytes[at] >= '0' && bytes[at] <= '9';
        }

        boolean startsWord() {
            return at < length && bytes[at] >= 'a' && bytes[at] <= 'z';
        }

        /** The word is empty where no letter stands: then it is none of those that are asked for. */
        void readWord() {
            wordFrom = at;
            while (at < length && bytes[at] >= 'a' && bytes[at] <= 'z') {
                at++;
            }
            wordEnd = at;
            skipBlanks();
        }

        boolean wordIs(String text) {
            if (wordEnd - wordFrom != text.length()) {
                return false;
            }
            for (int i = 0; i < text.length(); i++) {
                if (bytes[wordFrom + i] != text.charAt(i)) {
                    return false;
                }
            }
            return true;
        }

        /** NONE behind a fault. */
        int readNumber(int least, int most) {
            numberFrom = at;
            int number = 0;
            while (at < length && bytes[at] >= '0' && bytes[at] <= '9') {
                number = Math.min(number * 10 + bytes[at] - '0', FAR_NUMBER);
                at++;
            }
            if (at == numberFrom) {
                fail(FAULT_SIGN, numberFrom);
                return NONE;
            }
            if (number < least || number > most) {
                fail(FAULT_NUMBER, numberFrom);
                return NONE;
            }
            skipBlanks();
            return number;
        }

        private void skipBlanks() {
            while (at < length && bytes[at] == BLANK) {
                at++;
            }
        }
    }

    /** The law of halting, kept with each sign behind what it joins. */
    private static final class Law {
        private static final int MOST_CODES = 600;
        private static final int MOST_STACKED = 32;
        private static final int MOST_OPEN = 6;
        private static final int VALUES = 5;
        private static final int FIRST_VALUE = 100;
        private static final int PLUS = 105;
        private static final int MINUS = 106;
        private static final int TIMES = 107;

        private static final int MOST = 0;
        private static final int SUM = 1;
        private static final int FIRST = 2;
        private static final int LAST = 3;
        private static final int MANY = 4;

        final int[] codes = new int[MOST_CODES];
        final int[] stack = new int[MOST_STACKED];
        final int[] values = new int[VALUES];
        int length = 0;

        void becomeMost() {
            length = 0;
            emit(FIRST_VALUE + MOST);
        }

        void forget() {
            length = 0;
        }

        /** Open: how many of ( are open. */
        private boolean readSum(Tape tape, int open) {
            if (!readProduct(tape, open)) {
                return false;
            }
            for (int i = 0; i < MOST_CODES; i++) {
                int sign = tape.takesSign('+') ? PLUS : tape.takesSign('-') ? MINUS : NONE;
                if (sign < 0) {
                    return true;
                }
                if (!readProduct(tape, open)) {
                    return false;
                }
                emit(sign);
            }
            return true;
        }

        private boolean readProduct(Tape tape, int open) {
            if (!readUnit(tape, open)) {
                return false;
            }
            for (int i = 0; i < MOST_CODES && tape.takesSign('*'); i++) {
                if (!readUnit(tape, open)) {
                    return false;
                }
                emit(TIMES);
            }
            return true;
        }

        private boolean readUnit(Tape tape, int open) {
            if (tape.isSign('(')) {
                if (open >= MOST_OPEN) {
                    return tape.failHere(FAULT_MANY);
                }
                return tape.takesSign('(') && readSum(tape, open + 1) && tape.needsSign(')');
            }
            if (tape.startsNumber()) {
                int number = tape.readNumber(0, 99);
                emit(number);
                return number >= 0;
            }
            tape.readWord();
            int value = valueOfWord(tape);
            if (value < 0) {
                return tape.failAtWord(FAULT_SIGN);
            }
            emit(FIRST_VALUE + value);
            return true;
        }

        private int valueOfWord(Tape tape) {
            if (tape.wordIs("most")) {
                return MOST;
            }
            if (tape.wordIs("sum")) {
                return SUM;
            }
            if (tape.wordIs("first")) {
                return FIRST;
            }
            if (tape.wordIs("last")) {
                return LAST;
            }
            return tape.wordIs("many") ? MANY : NONE;
        }

        private void emit(int code) {
            if (length < MOST_CODES) {
                codes[length] = code;
                length++;
            }
        }

        /** Fills the values by the griefs that stand from base on. */
        void measure(Row row, int[] griefs, int base) {
            for (int i = 0; i < VALUES; i++) {
                values[i] = 0;
            }
            for (int i = 0; i < row.many; i++) {
                int grief = griefs[base + row.items[i]];
                if (grief > 0) {
                    values[MOST] = Math.max(values[MOST], grief);
                    values[SUM] += grief;
                    if (values[MANY] == 0) {
                        values[FIRST] = grief;
                    }
                    values[LAST] = grief;
                    values[MANY]++;
                }
            }
        }

        /** Needed: how many must have grief, that any halts. */
        int haltOf(Row row, int[] griefs, int base, int needed) {
            measure(row, griefs, base);
            if (values[MANY] < needed) {
                return 0;
            }
            return Math.max(0, Math.min(MOST_HALT, reckon()));
        }

        private int reckon() {
            int top = 0;
            for (int i = 0; i < length; i++) {
                int code = codes[i];
                if (code < PLUS) {
                    if (top < MOST_STACKED) {
                        stack[top] = code < FIRST_VALUE ? code : values[code - FIRST_VALUE];
                        top++;
                    }
                } else if (top >= 2) {
                    top--;
                    int left = stack[top - 1];
                    int right = stack[top];
                    stack[top - 1] = code == PLUS ? left + right : code == MINUS ? left - right : left * right;
                }
            }
            return top > 0 ? stack[0] : 0;
        }
    }

    /** What the text of a land tells; nothing of it changes until the next text. */
    private static final class Land {
        private static final int MOST_CLAUSES = 60;
        private static final int PLACE = 0;
        private static final int ROAD = 1;
        private static final int CAMEL = 2;
        private static final int HURT = 3;
        private static final int CALF = 4;
        private static final int QUARREL = 5;
        private static final int LAW = 6;

        final int[] kinds = new int[MOST_PLACES];
        final int[] roads = new int[MOST_PLACES * MOST_PLACES];
        final int[] prices = new int[MOST_CAMELS];
        final int[] mothers = new int[MOST_CAMELS];
        final int[] atOdds = new int[MOST_CAMELS];
        final int[] hurts = new int[CELLS];
        final Law law = new Law();
        int places = 0;
        int camels = 0;

        boolean readFrom(Tape tape) {
            forget();
            for (int clauses = 0; clauses <= MOST_CLAUSES && !tape.hasEnded(); clauses++) {
                if (!readClause(tape, clauses) || !tape.needsSign(';')) {
                    return false;
                }
            }
            return true;
        }

        private void forget() {
            places = 0;
            camels = 0;
            law.becomeMost();
            for (int i = 0; i < roads.length; i++) {
                roads[i] = 0;
            }
            for (int i = 0; i < CELLS; i++) {
                hurts[i] = 0;
            }
            for (int i = 0; i < MOST_CAMELS; i++) {
                mothers[i] = NONE;
                atOdds[i] = 0;
            }
        }

        private boolean readClause(Tape tape, int before) {
            tape.readWord();
            int kind = kindOfWord(tape);
            if (kind < 0) {
                return tape.failAtWord(FAULT_SIGN);
            }
            if (before >= MOST_CLAUSES) {
                return tape.failAtWord(FAULT_MANY);
            }
            switch (kind) {
                case PLACE: return readPlace(tape);
                case ROAD: return readRoad(tape);
                case CAMEL: return readCamel(tape);
                case HURT: return readHurt(tape);
                case CALF: return readCalf(tape);
                case QUARREL: return readQuarrel(tape);
                default:
                    law.forget();
                    return law.readSum(tape, 0);
            }
        }

        private int kindOfWord(Tape tape) {
            if (tape.wordIs("place")) {
                return PLACE;
            }
            if (tape.wordIs("road")) {
                return ROAD;
            }
            if (tape.wordIs("camel")) {
                return CAMEL;
            }
            if (tape.wordIs("hurt")) {
                return HURT;
            }
            if (tape.wordIs("calf")) {
                return CALF;
            }
            if (tape.wordIs("quarrel")) {
                return QUARREL;
            }
            return tape.wordIs("law") ? LAW : NONE;
        }

        private boolean readPlace(Tape tape) {
            if (places >= MOST_PLACES) {
                return tape.failAtWord(FAULT_MANY);
            }
            int kind = tape.readNumber(0, MIRAGE);
            if (kind < 0) {
                return false;
            }
            kinds[places] = kind;
            places++;
            return true;
        }

        private boolean readCamel(Tape tape) {
            if (camels >= MOST_CAMELS) {
                return tape.failAtWord(FAULT_MANY);
            }
            int price = tape.readNumber(0, 99);
            if (price < 0) {
                return false;
            }
            prices[camels] = price;
            camels++;
            return true;
        }

        private boolean readRoad(Tape tape) {
            int a = readPlaceName(tape);
            if (a < 0) {
                return false;
            }
            int b = readPlaceName(tape);
            if (b < 0) {
                return false;
            }
            if (a == b) {
                return tape.failAtNumber(FAULT_NUMBER);
            }
            int hours = tape.readNumber(1, 24);
            if (hours < 0) {
                return false;
            }
            roads[a * MOST_PLACES + b] = hours;
            roads[b * MOST_PLACES + a] = hours;
            return true;
        }

        private boolean readHurt(Tape tape) {
            int camel = readCamelName(tape);
            if (camel < 0) {
                return false;
            }
            int place = readPlaceName(tape);
            if (place < 0) {
                return false;
            }
            int hours = tape.readNumber(1, MOST_GRIEF);
            if (hours < 0) {
                return false;
            }
            int cell = place * MOST_CAMELS + camel;
            hurts[cell] = Math.min(MOST_GRIEF, hurts[cell] + hours);
            return true;
        }

        private boolean readCalf(Tape tape) {
            int calf = readCamelName(tape);
            int mother = calf < 0 ? NONE : readOtherCamel(tape, calf);
            if (mother < 0) {
                return false;
            }
            mothers[calf] = mother;
            return true;
        }

        private boolean readQuarrel(Tape tape) {
            int camel = readCamelName(tape);
            int other = camel < 0 ? NONE : readOtherCamel(tape, camel);
            if (other < 0) {
                return false;
            }
            atOdds[camel] |= 1 << other;
            atOdds[other] |= 1 << camel;
            return true;
        }

        private int readOtherCamel(Tape tape, int camel) {
            int other = tape.readNumber(0, camels - 1);
            if (other == camel) {
                tape.failAtNumber(FAULT_NUMBER);
                return NONE;
            }
            return other;
        }

        private int readPlaceName(Tape tape) {
            return tape.readNumber(0, places - 1);
        }

        private int readCamelName(Tape tape) {
            return tape.readNumber(0, camels - 1);
        }

        /** 0: there is no road. */
        int roadHours(int a, int b) {
            return roads[a * MOST_PLACES + b];
        }

        /** NONE if two places of it are not joined. */
        int roadsOf(Row journey) {
            int hours = 0;
            for (int i = 1; i < journey.many; i++) {
                int road = roadHours(journey.items[i - 1], journey.items[i]);
                if (road == 0) {
                    return NONE;
                }
                hours += road;
            }
            return hours;
        }

        int haltAt(int place, Row row, Herd herd) {
            return law.haltOf(row, herd.griefs, place * MOST_CAMELS, neededAt(place));
        }

        int neededAt(int place) {
            return kinds[place] == MIRAGE ? 3 : 1;
        }

        boolean areAtOdds(int camel, int other) {
            return ((atOdds[camel] >> other) & 1) != 0;
        }

        int quarrelsIn(Row row) {
            int pairs = 0;
            for (int i = 1; i < row.many; i++) {
                if (areAtOdds(row.items[i - 1], row.items[i])) {
                    pairs++;
                }
            }
            return pairs;
        }

        boolean hasAll(int bits) {
            return bits >= 0 && bits < 1 << camels;
        }
    }

    /** Some camels, or some places, one behind the other. */
    private static final class Row {
        final int[] items = new int[MOST_STOPS];
        int many = 0;

        void empty() {
            many = 0;
        }

        void add(int item) {
            if (many < items.length) {
                items[many] = item;
                many++;
            }
        }

        void putFirst(int item) {
            if (many < items.length) {
                for (int i = many; i > 0; i--) {
                    items[i] = items[i - 1];
                }
                items[0] = item;
                many++;
            }
        }

        void takeOut(int item) {
            int left = 0;
            for (int i = 0; i < many; i++) {
                if (items[i] != item) {
                    items[left] = items[i];
                    left++;
                }
            }
            many = left;
        }

        boolean has(int item) {
            for (int i = 0; i < many; i++) {
                if (items[i] == item) {
                    return true;
                }
            }
            return false;
        }

        int itemAt(int i) {
            return i >= 0 && i < many ? items[i] : NONE;
        }

        void copyFrom(Row other) {
            many = other.many;
            System.arraycopy(other.items, 0, items, 0, items.length);
        }

        void takeFirst(int end) {
            empty();
            for (int item = 0; item < end; item++) {
                add(item);
            }
        }

        void takeBits(int bits) {
            empty();
            for (int camel = 0; camel < MOST_CAMELS; camel++) {
                if (((bits >> camel) & 1) != 0) {
                    add(camel);
                }
            }
        }

        void takeFrom(Row other, int bits) {
            empty();
            for (int i = 0; i < other.many; i++) {
                if (((bits >> other.items[i]) & 1) != 0) {
                    add(other.items[i]);
                }
            }
        }

        /** False if a digit is not below the end, or the number has more digits than are asked for. */
        boolean takeDigits(int digits, long number, int end) {
            empty();
            if (digits < 0 || digits > items.length) {
                return false;
            }
            long left = number;
            for (int i = digits - 1; i >= 0; i--) {
                int digit = (int) (left % 10);
                if (digit < 0 || digit >= end) {
                    return false;
                }
                items[i] = digit;
                left /= 10;
            }
            many = digits;
            return left == 0;
        }

        boolean holdsOneTwice() {
            return Integer.bitCount(asBits()) != many;
        }

        int asBits() {
            int bits = 0;
            for (int i = 0; i < many; i++) {
                bits |= 1 << items[i];
            }
            return bits;
        }

        long asDigits() {
            long digits = 0;
            for (int i = 0; i < many; i++) {
                digits = digits * 10 + items[i];
            }
            return digits;
        }

        /** False behind the last order of these items. */
        boolean turnToNextOrder() {
            int from = many - 2;
            while (from >= 0 && items[from] >= items[from + 1]) {
                from--;
            }
            if (from < 0) {
                return false;
            }
            int with = many - 1;
            while (with > from + 1 && items[with] <= items[from]) {
                with--;
            }
            swap(from, with);
            int right = many - 1;
            for (int left = from + 1; left < right; left++) {
                swap(left, right);
                right--;
            }
            return true;
        }

        private void swap(int i, int k) {
            int item = items[i];
            items[i] = items[k];
            items[k] = item;
        }
    }

    /** What each camel remembers of each place. */
    private static final class Herd {
        final int[] griefs = new int[CELLS];
        final int[] depths = new int[CELLS];
        final int[] met = new int[MOST_CAMELS];

        void copyFrom(Herd other) {
            System.arraycopy(other.griefs, 0, griefs, 0, CELLS);
            System.arraycopy(other.depths, 0, depths, 0, CELLS);
        }

        void beginIn(Land land) {
            System.arraycopy(land.hurts, 0, griefs, 0, CELLS);
            System.arraycopy(land.hurts, 0, depths, 0, CELLS);
        }

        int griefAt(int place, int camel) {
            return griefs[place * MOST_CAMELS + camel];
        }

        int depthAt(int place, int camel) {
            return depths[place * MOST_CAMELS + camel];
        }

        void suffer(int place, int camel, int hours) {
            int cell = place * MOST_CAMELS + camel;
            griefs[cell] = Math.min(MOST_GRIEF, griefs[cell] + hours);
            depths[cell] = Math.min(MOST_GRIEF, depths[cell] + hours);
        }

        void comfort(int place, int camel) {
            griefs[place * MOST_CAMELS + camel] = 0;
        }

        void healAt(int place) {
            for (int camel = 0; camel < MOST_CAMELS; camel++) {
                comfort(place, camel);
            }
        }

        /** All that is behind the halt of a row in a place. */
        void comesTo(Land land, int place, Row row) {
            teachCalves(land, place, row);
            if (land.kinds[place] == FODDER) {
                forgetSome(row);
            }
            if (land.kinds[place] == SALT) {
                remindSome(row);
            }
        }

        private void teachCalves(Land land, int place, Row row) {
            int base = place * MOST_CAMELS;
            System.arraycopy(griefs, base, met, 0, MOST_CAMELS);
            for (int i = 0; i < row.many; i++) {
                int calf = row.items[i];
                int mother = land.mothers[calf];
                if (mother >= 0 && row.has(mother) && met[mother] / 2 > met[calf]) {
                    griefs[base + calf] = met[mother] / 2;
                    depths[base + calf] = Math.max(depths[base + calf], met[mother] / 2);
                }
            }
        }

        void forgetSome(Row row) {
            for (int place = 0; place < MOST_PLACES; place++) {
                for (int i = 0; i < row.many; i++) {
                    int cell = place * MOST_CAMELS + row.items[i];
                    griefs[cell] = Math.max(0, griefs[cell] - 1);
                }
            }
        }

        void remindSome(Row row) {
            for (int place = 0; place < MOST_PLACES; place++) {
                for (int i = 0; i < row.many; i++) {
                    int cell = place * MOST_CAMELS + row.items[i];
                    if (griefs[cell] > 0 && griefs[cell] < depths[cell]) {
                        griefs[cell]++;
                    }
                }
            }
        }

        int greatestOf(int place, int bits) {
            int greatest = 0;
            for (int camel = 0; camel < MOST_CAMELS; camel++) {
                if (((bits >> camel) & 1) != 0) {
                    greatest = Math.max(greatest, griefAt(place, camel));
                }
            }
            return greatest;
        }

        /** How much more grief these would have in a place, had each of them so much at least. */
        int wouldLearn(int place, int bits, int atLeast) {
            int more = 0;
            for (int camel = 0; camel < MOST_CAMELS; camel++) {
                if (((bits >> camel) & 1) != 0) {
                    more += Math.max(0, atLeast - griefAt(place, camel));
                }
            }
            return more;
        }
    }

    /** All that an image keeps. */
    private static final class State {
        private static final int SAVED = 2 * CELLS;

        final Herd herd = new Herd();
        final Row rope = new Row();
        final Row journey = new Row();
        final int[] lineBits = new int[MOST_LINES];
        final int[] lineHours = new int[MOST_LINES];
        /** Griefs and depths ahead of each going. */
        final int[] saved = new int[MOST_GOINGS * SAVED];
        int lines = 0;
        int gone = 0;

        void beginIn(Land land) {
            herd.beginIn(land);
            rope.takeFirst(land.camels);
            journey.empty();
            lines = 0;
            gone = 0;
        }

        void copyFrom(State other) {
            herd.copyFrom(other.herd);
            rope.copyFrom(other.rope);
            journey.copyFrom(other.journey);
            System.arraycopy(other.lineBits, 0, lineBits, 0, MOST_LINES);
            System.arraycopy(other.lineHours, 0, lineHours, 0, MOST_LINES);
            System.arraycopy(other.saved, 0, saved, 0, saved.length);
            lines = other.lines;
            gone = other.gone;
        }

        boolean addLine(int bits, int hours) {
            if (lines >= MOST_LINES) {
                return false;
            }
            lineBits[lines] = bits;
            lineHours[lines] = hours;
            lines++;
            return true;
        }

        void keepForUndo() {
            if (gone < MOST_GOINGS) {
                System.arraycopy(herd.griefs, 0, saved, gone * SAVED, CELLS);
                System.arraycopy(herd.depths, 0, saved, gone * SAVED + CELLS, CELLS);
                gone++;
            }
        }

        boolean takeBack() {
            if (gone <= 0) {
                return false;
            }
            gone--;
            System.arraycopy(saved, gone * SAVED, herd.griefs, 0, CELLS);
            System.arraycopy(saved, gone * SAVED + CELLS, herd.depths, 0, CELLS);
            return true;
        }
    }

    /** A journey gone through on a herd of its own, so that nothing else changes. */
    private static final class Trip {
        final Herd herd = new Herd();
        /** Griefs in each place of the journey, as they are on coming there. */
        final int[] coming = new int[MOST_STOPS * MOST_CAMELS];
        final int[] halts = new int[MOST_STOPS];
        int roads = 0;
        int halted = 0;

        void walk(Land land, Row journey, Row row, Herd from) {
            herd.copyFrom(from);
            roads = land.roadsOf(journey);
            halted = 0;
            for (int i = 1; i < journey.many; i++) {
                int place = journey.items[i];
                System.arraycopy(herd.griefs, place * MOST_CAMELS, coming, i * MOST_CAMELS, MOST_CAMELS);
                halts[i] = haltOnComing(land, place, i, row);
                halted += halts[i];
                herd.comesTo(land, place, row);
            }
        }

        private int haltOnComing(Land land, int place, int i, Row row) {
            return land.law.haltOf(row, coming, i * MOST_CAMELS, land.neededAt(place));
        }

        int hoursInAll() {
            return roads + halted;
        }

        /** Behind a walk: what the same camels take in another order. */
        int hoursInOrder(Land land, Row journey, Row row) {
            int hours = roads;
            for (int i = 1; i < journey.many; i++) {
                hours += haltOnComing(land, journey.items[i], i, row);
            }
            return hours;
        }

        int mostGrieved(Row row, int i) {
            int most = 0;
            int who = NONE;
            for (int k = 0; k < row.many; k++) {
                int grief = coming[i * MOST_CAMELS + row.items[k]];
                if (grief > most) {
                    most = grief;
                    who = row.items[k];
                }
            }
            return who;
        }
    }

    /** The steps of a plan, each with the one behind it and the first ones of its blocks. */
    private static final class Plan {
        private static final int MOST_STEPS = 100;
        private static final int MOST_TERMS = 200;
        private static final int MOST_OPEN = 6;

        private static final int GO = 0;
        private static final int WAIT = 1;
        private static final int FEED = 2;
        private static final int REMIND = 3;
        private static final int DROP = 4;
        private static final int JOIN = 5;
        private static final int LEAD = 6;
        private static final int AGAIN = 7;
        private static final int WHILE = 8;
        private static final int IF = 9;

        private static final int NUMBER = 0;
        private static final int HERE = 1;
        private static final int HOURS = 2;
        private static final int HALT = 3;
        private static final int ROW = 4;
        private static final int LOST = 5;
        private static final int STEPS = 6;
        private static final int GRIEF = 7;

        private static final int LESS = 0;
        private static final int MORE = 1;
        private static final int ALIKE = 2;

        final int[] kinds = new int[MOST_STEPS];
        final int[] numbers = new int[MOST_STEPS];
        final int[] nexts = new int[MOST_STEPS];
        final int[] inners = new int[MOST_STEPS];
        final int[] others = new int[MOST_STEPS];
        /** Where the terms of a step's test begin, and where they end. */
        final int[] testFrom = new int[MOST_STEPS];
        final int[] testEnd = new int[MOST_STEPS];
        final int[] relations = new int[MOST_STEPS];
        final int[] termKinds = new int[MOST_TERMS];
        final int[] termNumbers = new int[MOST_TERMS];
        final int[] termSigns = new int[MOST_TERMS];
        int steps = 0;
        int terms = 0;

        void forget() {
            steps = 0;
            terms = 0;
        }

        /** Reads steps to the end of the block, or of the text if no block is open. */
        private boolean readSteps(Tape tape, Land land, int open) {
            int before = NONE;
            for (int i = 0; i <= MOST_STEPS; i++) {
                if (open == 0 ? tape.hasEnded() : tape.takesSign(']')) {
                    return true;
                }
                int step = steps;
                if (!readStep(tape, land, open) || !tape.needsSign(';')) {
                    return false;
                }
                if (before >= 0) {
                    nexts[before] = step;
                }
                before = step;
            }
            return tape.failHere(FAULT_MANY);
        }

        private boolean readStep(Tape tape, Land land, int open) {
            tape.readWord();
            int kind = kindOfWord(tape);
            if (kind < 0) {
                return tape.failAtWord(FAULT_SIGN);
            }
            if (steps >= MOST_STEPS) {
                return tape.failAtWord(FAULT_MANY);
            }
            int step = steps;
            steps++;
            kinds[step] = kind;
            numbers[step] = 0;
            nexts[step] = NONE;
            inners[step] = NONE;
            others[step] = NONE;
            if (kind >= AGAIN) {
                return readNested(tape, land, step, open);
            }
            if (kind != FEED && kind != REMIND) {
                numbers[step] = readNumberOf(tape, land, kind);
            }
            return numbers[step] >= 0;
        }

        private int readNumberOf(Tape tape, Land land, int kind) {
            return tape.readNumber(0, kind == GO ? land.places - 1 : kind == WAIT ? 99 : land.camels - 1);
        }

        private boolean readNested(Tape tape, Land land, int step, int open) {
            if (kinds[step] == AGAIN) {
                numbers[step] = tape.readNumber(0, 20);
                if (numbers[step] < 0) {
                    return false;
                }
            } else if (!readTest(tape, land, step)) {
                return false;
            }
            int inner = steps;
            if (!readBlock(tape, land, open)) {
                return false;
            }
            inners[step] = steps > inner ? inner : NONE;
            if (kinds[step] != IF || !tape.startsWord()) {
                return true;
            }
            tape.readWord();
            if (!tape.wordIs("else")) {
                return tape.failAtWord(FAULT_SIGN);
            }
            int other = steps;
            if (!readBlock(tape, land, open)) {
                return false;
            }
            others[step] = steps > other ? other : NONE;
            return true;
        }

        private boolean readBlock(Tape tape, Land land, int open) {
            if (open >= MOST_OPEN && tape.isSign('[')) {
                return tape.failHere(FAULT_MANY);
            }
            return tape.needsSign('[') && readSteps(tape, land, open + 1);
        }

        /** A test is kept as its left side less its right side. */
        private boolean readTest(Tape tape, Land land, int step) {
            testFrom[step] = terms;
            relations[step] = NONE;
            int side = 1;
            int sign = 1;
            for (int i = 0; i < MOST_TERMS; i++) {
                if (!readTerm(tape, land, side * sign)) {
                    return false;
                }
                sign = tape.takesSign('+') ? 1 : tape.takesSign('-') ? -1 : 0;
                if (sign == 0 && relations[step] >= 0) {
                    testEnd[step] = terms;
                    return true;
                }
                if (sign == 0) {
                    relations[step] = readRelation(tape);
                    if (relations[step] < 0) {
                        return tape.failHere(FAULT_SIGN);
                    }
                    side = -1;
                    sign = 1;
                }
            }
            return tape.failHere(FAULT_MANY);
        }

        private int readRelation(Tape tape) {
            if (tape.takesSign('<')) {
                return LESS;
            }
            if (tape.takesSign('>')) {
                return MORE;
            }
            return tape.takesSign('=') ? ALIKE : NONE;
        }

        private boolean readTerm(Tape tape, Land land, int sign) {
            int kind = NUMBER;
            int number = 0;
            if (tape.startsNumber()) {
                number = tape.readNumber(0, 999);
            } else {
                tape.readWord();
                kind = kindOfTerm(tape);
                if (kind < 0) {
                    return tape.failAtWord(FAULT_SIGN);
                }
                if (kind == GRIEF) {
                    number = tape.readNumber(0, land.camels - 1);
                }
            }
            if (number < 0) {
                return false;
            }
            if (terms >= MOST_TERMS) {
                return tape.failHere(FAULT_MANY);
            }
            termKinds[terms] = kind;
            termNumbers[terms] = number;
            termSigns[terms] = sign;
            terms++;
            return true;
        }

        private int kindOfTerm(Tape tape) {
            if (tape.wordIs("here")) {
                return HERE;
            }
            if (tape.wordIs("hours")) {
                return HOURS;
            }
            if (tape.wordIs("halt")) {
                return HALT;
            }
            if (tape.wordIs("row")) {
                return ROW;
            }
            if (tape.wordIs("lost")) {
                return LOST;
            }
            if (tape.wordIs("steps")) {
                return STEPS;
            }
            return tape.wordIs("grief") ? GRIEF : NONE;
        }

        private int kindOfWord(Tape tape) {
            if (tape.wordIs("go")) {
                return GO;
            }
            if (tape.wordIs("wait")) {
                return WAIT;
            }
            if (tape.wordIs("feed")) {
                return FEED;
            }
            if (tape.wordIs("remind")) {
                return REMIND;
            }
            if (tape.wordIs("drop")) {
                return DROP;
            }
            if (tape.wordIs("join")) {
                return JOIN;
            }
            if (tape.wordIs("lead")) {
                return LEAD;
            }
            return kindOfNestedWord(tape);
        }

        private int kindOfNestedWord(Tape tape) {
            if (tape.wordIs("again")) {
                return AGAIN;
            }
            if (tape.wordIs("while")) {
                return WHILE;
            }
            return tape.wordIs("if") ? IF : NONE;
        }
    }

    /** A run of a plan, on a herd and a row of its own. */
    private static final class Runner {
        private static final int MOST_STEPS = 300;
        /** One more than blocks can be open: the steps outside of all blocks. */
        private static final int MOST_DEEP = 7;

        final Herd herd = new Herd();
        final Row rope = new Row();
        private Land land;
        private Plan plan;
        int here = 0;
        int hours = 0;
        int lost = 0;
        int steps = 0;
        boolean worn = false;

        Runner(Land land, Plan plan) {
            this.land = land;
            this.plan = plan;
        }

        void runFrom(Land inLand, Plan byPlan, State state, int from) {
            land = inLand;
            plan = byPlan;
            herd.copyFrom(state.herd);
            rope.copyFrom(state.rope);
            here = from;
            hours = 0;
            lost = 0;
            steps = 0;
            worn = false;
            runSteps(plan.steps > 0 ? 0 : NONE, 0);
        }

        private void runSteps(int first, int deep) {
            if (deep >= MOST_DEEP) {
                return;
            }
            int step = first;
            for (int i = 0; i < Plan.MOST_STEPS && step >= 0 && !worn; i++) {
                runStep(step, deep);
                step = plan.nexts[step];
            }
        }

        private void runStep(int step, int deep) {
            int kind = plan.kinds[step];
            if (kind == Plan.WHILE) {
                runWhile(step, deep);
            } else if (beginsStep()) {
                if (kind == Plan.AGAIN) {
                    runAgain(step, deep);
                } else if (kind == Plan.IF) {
                    runSteps(isSo(step) ? plan.inners[step] : plan.others[step], deep + 1);
                } else if (kind == Plan.GO) {
                    goTo(plan.numbers[step]);
                } else {
                    doStep(kind, plan.numbers[step]);
                }
            }
        }

        /** False, and the run is worn, if there were too many steps ahead. */
        private boolean beginsStep() {
            if (steps >= MOST_STEPS) {
                worn = true;
                return false;
            }
            steps++;
            return true;
        }

        private void runAgain(int step, int deep) {
            for (int i = 0; i < plan.numbers[step] && !worn; i++) {
                runSteps(plan.inners[step], deep + 1);
            }
        }

        private void runWhile(int step, int deep) {
            for (int i = 0; i <= MOST_STEPS; i++) {
                if (worn || !beginsStep() || !isSo(step)) {
                    return;
                }
                runSteps(plan.inners[step], deep + 1);
            }
        }

        private void doStep(int kind, int number) {
            switch (kind) {
                case Plan.WAIT:
                    hours += number;
                    break;
                case Plan.FEED:
                    herd.forgetSome(rope);
                    break;
                case Plan.REMIND:
                    herd.remindSome(rope);
                    break;
                case Plan.DROP:
                    rope.takeOut(number);
                    break;
                case Plan.JOIN:
                    if (!rope.has(number)) {
                        rope.add(number);
                    }
                    break;
                default:
                    rope.takeOut(number);
                    rope.putFirst(number);
                    break;
            }
        }

        private void goTo(int place) {
            int road = land.roadHours(here, place);
            if (road == 0) {
                lost++;
                return;
            }
            here = place;
            hours += road + land.law.haltOf(rope, herd.griefs, here * MOST_CAMELS, land.neededAt(here));
            herd.comesTo(land, place, rope);
        }

        private boolean isSo(int step) {
            int more = 0;
            for (int i = plan.testFrom[step]; i < plan.testEnd[step]; i++) {
                more += plan.termSigns[i] * valueOf(plan.termKinds[i], plan.termNumbers[i]);
            }
            switch (plan.relations[step]) {
                case Plan.LESS: return more < 0;
                case Plan.MORE: return more > 0;
                default: return more == 0;
            }
        }

        private int valueOf(int kind, int number) {
            switch (kind) {
                case Plan.HERE: return here;
                case Plan.HOURS: return hours;
                case Plan.HALT: return land.law.haltOf(rope, herd.griefs, here * MOST_CAMELS, land.neededAt(here));
                case Plan.ROW: return rope.many;
                case Plan.LOST: return lost;
                // The step that asks has begun, but is not done.
                case Plan.STEPS: return steps - 1;
                case Plan.GRIEF: return herd.griefAt(here, number);
                default: return number;
            }
        }
    }

    /** Least hours between all places, by the halts as they are now. */
    private static final class Ways {
        /** Above all hours of a way, and so small that two of them can be added. */
        private static final int FAR = 1000000;

        final int[] halts = new int[MOST_PLACES];
        final int[] least = new int[MOST_PLACES * MOST_PLACES];
        /** By the set of places come to, and the one of them that was last: the least hours. */
        final int[] reached = new int[(1 << MOST_PLACES) * MOST_PLACES];

        void measure(Land land, State state) {
            for (int place = 0; place < land.places; place++) {
                halts[place] = land.haltAt(place, state.rope, state.herd);
            }
            for (int a = 0; a < land.places; a++) {
                for (int b = 0; b < land.places; b++) {
                    int road = land.roadHours(a, b);
                    least[a * MOST_PLACES + b] = a == b ? 0 : road == 0 ? FAR : road + halts[b];
                }
            }
            for (int by = 0; by < land.places; by++) {
                shorten(land.places, by);
            }
        }

        private void shorten(int places, int by) {
            for (int a = 0; a < places; a++) {
                for (int b = 0; b < places; b++) {
                    int round = least[a * MOST_PLACES + by] + least[by * MOST_PLACES + b];
                    if (round < least[a * MOST_PLACES + b]) {
                        least[a * MOST_PLACES + b] = round;
                    }
                }
            }
        }

        int hoursBetween(int a, int b) {
            int hours = least[a * MOST_PLACES + b];
            return hours < FAR ? hours : NONE;
        }

        /** The first of all least ways; there must be one. */
        void follow(Land land, int from, int to, Row way) {
            way.empty();
            way.add(from);
            int here = from;
            for (int i = 0; i < MOST_PLACES && here != to && here >= 0; i++) {
                here = nextOn(land, here, to);
                if (here >= 0) {
                    way.add(here);
                }
            }
        }

        private int nextOn(Land land, int here, int to) {
            for (int place = 0; place < land.places; place++) {
                int road = land.roadHours(here, place);
                int hours = road + halts[place] + least[place * MOST_PLACES + to];
                if (road > 0 && hours == least[here * MOST_PLACES + to]) {
                    return place;
                }
            }
            return NONE;
        }

        int mostWithin(int places, int from, int hours) {
            int end = 1 << places;
            for (int i = 0; i < end * MOST_PLACES; i++) {
                reached[i] = FAR;
            }
            reached[(1 << from) * MOST_PLACES + from] = 0;
            int most = 1 << from;
            for (int set = most; set < end; set++) {
                boolean within = false;
                for (int last = 0; last < places; last++) {
                    if (reached[set * MOST_PLACES + last] <= hours) {
                        within = true;
                        reachOn(places, set, last);
                    }
                }
                if (within && Integer.bitCount(set) > Integer.bitCount(most)) {
                    most = set;
                }
            }
            return most;
        }

        private void reachOn(int places, int set, int last) {
            int before = reached[set * MOST_PLACES + last];
            for (int place = 0; place < places; place++) {
                if (((set >> place) & 1) == 0) {
                    int cell = (set | 1 << place) * MOST_PLACES + place;
                    reached[cell] = Math.min(reached[cell], before + least[last * MOST_PLACES + place]);
                }
            }
        }
    }

    /** All griefs by which the lines are so; found once, and kept until the lines change. */
    private static final class Explainer {
        private static final int MOST_GUESSED = 6;
        private static final int MOST_GUESS = 5;

        final Row[] rows = new Row[MOST_LINES];
        /** The highest guessed camel of each line: as soon as it is guessed, the line can be looked at. */
        final int[] lastOf = new int[MOST_LINES];
        final int[] guess = new int[MOST_CAMELS];
        private final State state;
        private Land land;
        int guessed = 0;
        boolean stale = true;
        int found = 0;
        int first = NONE;
        int always = 0;
        int ever = 0;

        Explainer(Land land, State state) {
            this.land = land;
            this.state = state;
            for (int i = 0; i < MOST_LINES; i++) {
                rows[i] = new Row();
            }
        }

        void explainAll(Land inLand) {
            if (!stale) {
                return;
            }
            stale = false;
            land = inLand;
            guessed = Math.min(MOST_GUESSED, land.camels);
            found = 0;
            first = NONE;
            always = (1 << guessed) - 1;
            ever = 0;
            for (int line = 0; line < state.lines; line++) {
                rows[line].takeBits(state.lineBits[line]);
                lastOf[line] = lastGuessed(rows[line]);
            }
            if (linesHold(NONE)) {
                guessFrom(0, 0);
            }
        }

        int sureBits() {
            return found > 0 ? always : 0;
        }

        int clearBits() {
            return found > 0 ? (1 << guessed) - 1 & ~ever : 0;
        }

        private int lastGuessed(Row row) {
            int last = NONE;
            for (int i = 0; i < row.many; i++) {
                if (row.items[i] < guessed) {
                    last = row.items[i];
                }
            }
            return last;
        }

        private void guessFrom(int camel, int digits) {
            if (camel >= guessed) {
                noteWay(digits);
                return;
            }
            for (int hours = 0; hours <= MOST_GUESS; hours++) {
                guess[camel] = hours;
                if (linesHold(camel)) {
                    guessFrom(camel + 1, digits * 6 + hours);
                }
            }
        }

        /** Whether the lines whose last guessed camel this one is are so. */
        private boolean linesHold(int camel) {
            for (int line = 0; line < state.lines; line++) {
                if (lastOf[line] == camel
                        && land.law.haltOf(rows[line], guess, 0, 1) != state.lineHours[line]) {
                    return false;
                }
            }
            return true;
        }

        private void noteWay(int digits) {
            if (found == 0) {
                first = digits;
            }
            found++;
            int grieved = 0;
            for (int camel = 0; camel < guessed; camel++) {
                if (guess[camel] > 0) {
                    grieved |= 1 << camel;
                }
            }
            always &= grieved;
            ever |= grieved;
        }
    }
}
