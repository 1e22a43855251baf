import java.util.ArrayList;
import java.util.List;

/**
 * The sentences of the document that name an edge of what is told, kept, counted and refused (promises
 * 1, 5 to 9, 46 and 50 to 53): each with a test at the edge, and one on either side of it. And all that
 * is refused, and all that is asked: that it leaves everything as it was.
 */
public final class StateEdgesTest {
    private static final int MIN = Integer.MIN_VALUE;
    private static final int MAX = Integer.MAX_VALUE;
    private static final int INDEX = 0;
    private static final int ELEMENT = 1;
    private static final int ARGUMENT = 2;
    private static final int STATE = 3;

    private static final String LAND = "place 0;place 1;place 2;road 0 1 2;road 1 2 3;camel 5;camel 7;camel 9;calf 2 1;"
        + "quarrel 0 2;hurt 0 1 6;hurt 1 2 8;hurt 2 0 3;law sum;";

    public static void main(String[] args) {
        aLandWithoutClauses();
        whatIsTold();
        whichPlaceRoadCamel();
        griefOrDepth();
        quarrelOfTwo();
        threeImages();
        theLatestImage();
        whatAnImageKeeps();
        whatAnImageDoesNotKeep();
        imagesAreNoMirrors();
        whatALandTakes();
        landsInTurn();
        whatAFaultLeaves();
        refusalsByReason();
        refusalsLeaveAll();
        whichRefusalGoesAhead();
        noneOfTheseIsRefused();
        askingLeavesAll();
        fiveHundredAndTwelveCalls();
        Checks.end("StateEdgesTest");
    }

    /** Something of everything: string 2 0 1, journey 0 1 2, two goings, two lines, an image, a plan, 20 bytes. */
    private static GrievingCamels rich() {
        GrievingCamels x = Checks.in(LAND);
        x.string(3, 201);
        x.route(3, 12);
        x.lay(3, 4);
        x.image();
        x.go();
        x.go();
        x.hurt(2, 2, 4);
        x.soothe(0, 2);
        x.lay(1, 2);
        Checks.plan(x, "go 1;wait 3;drop 0;");
        Checks.feed(x, "place 0;");
        return x;
    }

    /** All that can be asked of what changes, but for the refusals and how many images there are. */
    private static List<Long> all(GrievingCamels x) {
        List<Long> all = new ArrayList<>();
        for (int i = 0; i < 6; i++) {
            all.add((long) x.told(i));
        }
        all.add((long) x.fault());
        for (int p = 0; p < x.told(0); p++) {
            all.add((long) x.place(p));
            all.add((long) x.halt(p));
            all.add((long) x.road(p, 0));
            for (int c = 0; c < x.told(1); c++) {
                all.add((long) x.grief(p, c, 0));
                all.add((long) x.grief(p, c, 1));
            }
        }
        for (int i = 0; i < 4; i++) {
            all.add((long) x.row(i));
            all.add((long) x.at(i));
            all.add((long) x.explain(i));
            all.add(i > 0 ? (long) x.count(i) : 0);
        }
        for (int p = 0; p < x.told(0); p++) {
            all.add((long) x.run(p, 0));
            all.add((long) x.run(p, 3));
        }
        return all;
    }

    private static void same(int promise, String what, Object got, Object due) {
        if (!got.equals(due)) {
            System.out.println(what + ": " + got + ", due is " + due);
        }
        Checks.is(promise, what, got.equals(due) ? 1 : 0, 1);
    }

    private static long[] statuses(GrievingCamels x) {
        return new long[] {x.status(0), x.status(1), x.status(2), x.status(3)};
    }

    /** 1: "A LAND without CLAUSES." */
    private static void aLandWithoutClauses() {
        GrievingCamels x = new GrievingCamels();
        GrievingCamels told = new GrievingCamels();
        told.land(0);
        same(1, "a new object, and a land of no bytes", all(x), all(told));
        Checks.are(1, "nothing", new long[] {x.told(0), x.told(1), x.told(2), x.told(3), x.told(4), x.told(5)},
                0, 0, 0, 0, 0, 0);
        Checks.are(1, "no images, bytes, goings, fault", new long[] {x.count(0), x.count(1), x.count(2), x.fault()},
                0, 0, 0, -1);
        Checks.are(1, "no refusals", statuses(x), 0, 0, 0, 0);
        Checks.are(1, "nothing to take back", new long[] {x.undo(), x.restore(), x.clear(), x.begin(), x.shy()},
                -1, -1, 0, -1, 0);
        Checks.is(1, "an image of nothing", x.image(), 1);
        Checks.are(1, "a plan of nothing", new long[] {x.plan(0), x.begin()}, 0, -1);
    }

    /** 5: "0 PLACES, 1 CAMELS, 2 CAMELS of the STRING, 3 PLACES of the JOURNEY (0: none), 4 lines, 5 how often .." */
    private static void whatIsTold() {
        GrievingCamels x = rich();
        Checks.are(5, "told", new long[] {x.told(0), x.told(1), x.told(2), x.told(3), x.told(4), x.told(5)},
                3, 3, 3, 3, 2, 2);
        for (int what : new int[] {-1, 6, MIN, MAX}) {
            Checks.argument(5, "told(" + what + ")", () -> x.told(what));
        }
        x.string(1, 2);
        x.route(4, 1212);
        x.clear();
        x.undo();
        Checks.are(5, "told then", new long[] {x.told(2), x.told(3), x.told(4), x.told(5)}, 1, 4, 0, 1);
        Checks.is(5, "no journey", Checks.in(LAND).told(3), 0);
    }

    private static void whichPlaceRoadCamel() {
        GrievingCamels x = Checks.in(LAND);
        Checks.are(6, "kinds", new long[] {x.place(0), x.place(1), x.place(2)}, 0, 1, 2);
        for (int p : new int[] {-1, 3, MIN, MAX}) {
            Checks.index(6, "place " + p, () -> x.place(p));
            Checks.index(7, "road from " + p, () -> x.road(p, 0));
            Checks.index(7, "road to " + p, () -> x.road(0, p));
        }
        Checks.are(7, "roads", new long[] {x.road(0, 1), x.road(1, 0), x.road(1, 2), x.road(2, 1), x.road(0, 2), x.road(2, 0),
            x.road(0, 0), x.road(2, 2)}, 2, 2, 3, 3, -1, -1, -1, -1);
        Checks.are(8, "camels", new long[] {x.camel(0, 0), x.camel(2, 0), x.camel(0, 1), x.camel(1, 1), x.camel(2, 1)},
                5, 9, -1, -1, 1);
        for (int c : new int[] {-1, 3, MIN, MAX}) {
            Checks.element(8, "camel " + c, () -> x.camel(c, 0));
            Checks.argument(8, "what " + c, () -> x.camel(0, c));
        }
        Checks.argument(8, "what 2", () -> x.camel(2, 2));
    }

    /** 9: "GRIEF (what 0), DEPTH (1)." */
    private static void griefOrDepth() {
        GrievingCamels x = Checks.in(LAND);
        x.soothe(1, 0);
        Checks.are(9, "grief, depth", new long[] {x.grief(1, 0, 0), x.grief(1, 0, 1), x.grief(0, 2, 0), x.grief(2, 2, 1)},
                0, 6, 3, 0);
        for (int each : new int[] {-1, 3, MIN, MAX}) {
            Checks.index(9, "place " + each, () -> x.grief(each, 0, 0));
            Checks.element(9, "camel " + each, () -> x.grief(0, each, 0));
            Checks.argument(9, "what " + each, () -> x.grief(0, 0, each));
        }
        Checks.argument(9, "what 2", () -> x.grief(0, 0, 2));
    }

    /** 46: "IllegalArgumentException: one CAMEL." */
    private static void quarrelOfTwo() {
        GrievingCamels x = Checks.in(LAND);
        Checks.are(46, "quarrels", new long[] {x.quarrel(0, 2) ? 1 : 0, x.quarrel(2, 0) ? 1 : 0, x.quarrel(0, 1) ? 1 : 0,
            x.quarrel(1, 2) ? 1 : 0}, 1, 1, 0, 0);
        for (int c = 0; c < 3; c++) {
            int camel = c;
            Checks.argument(46, "camel " + c, () -> x.quarrel(camel, camel) ? 1 : 0);
        }
        for (int c : new int[] {-1, 3, MIN, MAX}) {
            Checks.element(46, "camel " + c, () -> x.quarrel(c, 0) ? 1 : 0);
            Checks.element(46, "other " + c, () -> x.quarrel(0, c) ? 1 : 0);
            Checks.element(46, "both " + c, () -> x.quarrel(c, c) ? 1 : 0);
        }
    }

    /** 50: "-1: there are 3"; 51: "-1: there is none" */
    private static void threeImages() {
        GrievingCamels x = Checks.in(LAND);
        Checks.is(51, "none", x.restore(), -1);
        Checks.are(50, "images", new long[] {x.image(), x.image(), x.count(0), x.image(), x.count(0)}, 1, 2, 2, 3, 3);
        Checks.are(50, "no fourth", new long[] {x.image(), x.image(), x.count(0)}, -1, -1, 3);
        Checks.are(51, "one back, one more", new long[] {x.restore(), x.image(), x.image()}, 2, 3, -1);
        Checks.are(51, "all back", new long[] {x.restore(), x.restore(), x.restore(), x.count(0), x.restore()}, 2, 1, 0, 0, -1);
        Checks.is(50, "the first again", x.image(), 1);
    }

    /** 51: "All is as in the latest IMAGE, which is gone" */
    private static void theLatestImage() {
        GrievingCamels x = Checks.in(LAND);
        for (int i = 1; i <= 4; i++) {
            x.hurt(0, 0, 1);
            Checks.is(50, "image " + i, x.image(), i == 4 ? -1 : i);
        }
        x.hurt(0, 0, 5);
        int[] due = {3, 2, 1};
        for (int i = 0; i < 3; i++) {
            Checks.are(51, "back to " + due[i], new long[] {x.restore(), x.grief(0, 0, 0), x.grief(0, 0, 1)},
                    2 - i, due[i], due[i]);
        }
        x.hurt(0, 0, 7);
        Checks.are(51, "no image is left", new long[] {x.restore(), x.grief(0, 0, 0)}, -1, 8);
    }

    /** 50: "GRIEFS, DEPTHS, the STRING, the JOURNEY, lines, what can be undone" */
    private static void whatAnImageKeeps() {
        GrievingCamels x = rich();
        List<Long> before = all(x);
        Checks.is(50, "image", x.image(), 2);
        x.hurt(0, 0, 3);
        x.hurt(1, 1, 9);
        x.soothe(1, 0);
        x.string(2, 12);
        x.route(2, 21);
        x.clear();
        x.lay(7, 9);
        x.lay(6, 8);
        x.lay(5, 7);
        x.undo();
        x.undo();
        x.hurt(2, 2, 1);
        x.go();
        x.hurt(2, 2, 1);
        x.go();
        Checks.is(51, "restore", x.restore(), 1);
        Checks.is(53, "images", x.count(0), 1);
        same(51, "all is as in the image", all(x), before);
        // What can be undone: the goings of the image.
        Checks.are(51, "undone", new long[] {x.undo(), x.grief(2, 2, 0), x.undo(), x.grief(2, 2, 0),
            x.grief(2, 2, 1), x.undo()}, 1, 3, 0, 0, 0, -1);
        Checks.is(51, "the image ahead of these", x.restore(), 0);
        Checks.are(51, "one line, no going, no hurt", new long[] {x.told(4), x.told(5), x.grief(2, 2, 0), x.grief(0, 2, 0),
            x.explain(1)}, 1, 0, 0, 3, 4 * 6);
    }

    /** The LAND, the PLAN, the TAPE, the FAULT, refusals are of no IMAGE. */
    private static void whatAnImageDoesNotKeep() {
        GrievingCamels x = rich();
        x.image();
        Checks.argument(52, "told(9)", () -> x.told(9));
        Checks.state(52, "no journey", () -> Checks.in(LAND).heavy());
        Checks.plan(x, "");
        Checks.plan(x, "wait 8;wait 9;");
        Checks.plan(x, "y");
        Checks.feed(x, "twenty bytes and one!");
        Checks.is(51, "restore", x.restore(), 1);
        Checks.are(51, "what is as it was ahead of it", new long[] {x.run(0, 0), x.run(0, 3), x.fault(), x.count(1),
            x.status(2)}, 17, 2, 0, 40, 1);
    }

    /** What comes behind an image does not come into it, nor does one image into another. */
    private static void imagesAreNoMirrors() {
        GrievingCamels x = rich();
        List<Long> before = all(x);
        x.image();
        changeAll(x);
        List<Long> between = all(x);
        x.image();
        changeAll(x);
        Checks.is(51, "the third", x.restore(), 2);
        same(51, "as in the third image", all(x), between);
        changeAll(x);
        Checks.is(51, "the second", x.restore(), 1);
        same(51, "as in the second image", all(x), before);
        changeAll(x);
        Checks.is(51, "the first", x.restore(), 0);
        GrievingCamels y = rich();
        y.restore();
        same(51, "as in the first image", all(x), all(y));
    }

    private static void changeAll(GrievingCamels x) {
        x.hurt(0, 1, 4);
        x.soothe(1, 0);
        x.string(2, x.row(0) == 0 ? 12 : 1);
        x.undo();
        x.undo();
        x.hurt(2, 1, 1);
        x.route(2, x.at(0) == 0 ? 10 : 1);
        x.go();
        x.lay(2, 5);
        x.go();
        x.go();
        x.hurt(2, 0, 2);
    }

    /** 3: "(no JOURNEY, PLAN, lines, IMAGES; all CAMELS in the STRING)" */
    private static void whatALandTakes() {
        GrievingCamels x = rich();
        Checks.argument(52, "told(9)", () -> x.told(9));
        x.plan(0);
        Checks.plan(x, "wait 5;");
        Checks.is(3, "the same land", Checks.land(x, LAND), 3);
        same(3, "as a new object", all(x), all(Checks.in(LAND)));
        Checks.are(3, "nothing to take back", new long[] {x.count(0), x.restore(), x.undo(), x.clear()}, 0, -1, -1, 0);
        Checks.are(52, "refusals stay", statuses(x), 0, 0, 1, 0);
        Checks.is(3, "another one", Checks.land(x, "place 2;camel 1;camel 2;"), 2);
        same(3, "as a new object, too", all(x), all(Checks.in("place 2;camel 1;camel 2;")));
        Checks.is(3, "none", x.land(0), 0);
        same(3, "as a new object without clauses", all(x), all(new GrievingCamels()));
    }

    /** Nothing of any land before is left, of a good one or of a bad one. */
    private static void landsInTurn() {
        String plain = "place 0;place 0;place 0;camel 0;camel 0;camel 0;";
        inTurn(LAND, plain, LAND + "x", "place 3;camel 1;", plain);
        inTurn(LAND + "law 9;", LAND, plain, LAND);
        inTurn("place 0;camel 0;hurt 0 0 5;", "place 0;camel 0;hurt 0 0 7;", "place 0;camel 0;", "",
                "place 1;place 1;camel 3;law 0;", "place 1;place 1;camel 3;", plain);
    }

    private static void inTurn(String... lands) {
        GrievingCamels x = new GrievingCamels();
        for (String land : lands) {
            if (Checks.land(x, land) < 0) {
                continue;
            }
            GrievingCamels y = Checks.in(land);
            same(3, "in turn: " + land, all(x), all(y));
            for (int a = 0; a < x.told(1); a++) {
                Checks.is(8, "mother of " + a, x.camel(a, 1), y.camel(a, 1));
                for (int b = 0; b < a; b++) {
                    Checks.is(46, "quarrel of " + a + " and " + b, x.quarrel(a, b) ? 1 : 0, y.quarrel(a, b) ? 1 : 0);
                }
                for (int p = 0; p < x.told(0); p++) {
                    x.hurt(p, a, 1 + a);
                    y.hurt(p, a, 1 + a);
                    Checks.is(14, "law of " + land, x.halt(p), y.halt(p));
                }
            }
        }
    }

    /** 3: "or the FAULT less 10 (all but the TAPE stays)"; 36: "(it stays)" */
    private static void whatAFaultLeaves() {
        String[] bad = {"place 0;place 0;road 0 1 2;camel 1;camel 2;hurt 0 1 4;calf 0 1;quarrel 0 1;law 7;x", "place 7;", "place 0",
            "camel 0;".repeat(9), "law (((((((1)))))));", "law 1;".repeat(61)};
        for (String text : bad) {
            GrievingCamels x = rich();
            x.plan(0);
            Checks.plan(x, "wait 5;go 1;");
            List<Long> before = all(x);
            int answer = Checks.land(x, text);
            Checks.is(3, "a fault in " + text, answer < -6 && answer > -10 ? 1 : 0, 1);
            before.set(6, (long) x.fault());
            same(3, "all stays by " + text, all(x), before);
            Checks.is(3, "images", x.count(0), 1);
            Checks.are(3, "roads, camels, quarrels, the law stay", new long[] {x.road(1, 2), x.camel(2, 1), x.camel(2, 0),
                x.quarrel(0, 2) ? 1 : 0, x.quarrel(0, 1) ? 1 : 0, x.would(1, 7)}, 3, 1, 9, 1, 0, 6);
        }
        for (String text : new String[] {"wait 9;go 9;", "wait 100;", "go", "feed;feed", "if 1=1[wait 7;]els",
            "again 1[".repeat(7)}) {
            GrievingCamels x = rich();
            x.plan(0);
            Checks.plan(x, "wait 5;go 1;");
            List<Long> before = all(x);
            int answer = Checks.plan(x, text);
            Checks.is(36, "a fault in " + text, answer < -6 && answer > -10 ? 1 : 0, 1);
            before.set(6, (long) x.fault());
            same(36, "all stays by " + text, all(x), before);
            Checks.is(36, "images", x.count(0), 1);
        }
    }

    private interface Asked {
        long of(GrievingCamels x);
    }

    private record Refused(String what, int reason, Asked call) {
    }

    private static final List<Refused> REFUSED = new ArrayList<>();

    private static void add(String what, int reason, Asked call) {
        REFUSED.add(new Refused(what, reason, call));
    }

    static {
        for (int p : new int[] {-1, 3, MIN, MAX}) {
            add("place", INDEX, x -> x.place(p));
            add("road a", INDEX, x -> x.road(p, 0));
            add("road b", INDEX, x -> x.road(0, p));
            add("grief place", INDEX, x -> x.grief(p, 0, 0));
            add("hurt place", INDEX, x -> x.hurt(p, 0, 1));
            add("soothe place", INDEX, x -> x.soothe(p, 0));
            add("halt", INDEX, x -> x.halt(p));
            add("value place", INDEX, x -> x.value(p, 0));
            add("would place", INDEX, x -> x.would(p, 0));
            add("least from", INDEX, x -> x.least(p, 0, 0));
            add("least to", INDEX, x -> x.least(0, p, 0));
            add("run from", INDEX, x -> x.run(p, 0));
            add("ran from", INDEX, x -> x.ran(p, 0, 0));
            add("ran place", INDEX, x -> x.ran(0, p, 0));
            add("ranRow from", INDEX, x -> x.ranRow(p, 0));
            add("visited from", INDEX, x -> x.visited(p, 0, 0));
            add("learnt place", INDEX, x -> x.learnt(p, 0));
            add("forgot place", INDEX, x -> x.forgot(p, 0));
            add("camel", ELEMENT, x -> x.camel(p, 0));
            add("grief camel", ELEMENT, x -> x.grief(0, p, 0));
            add("hurt camel", ELEMENT, x -> x.hurt(0, p, 1));
            add("soothe camel", ELEMENT, x -> x.soothe(0, p));
            add("ran camel", ELEMENT, x -> x.ran(0, 0, p));
            add("learnt camel", ELEMENT, x -> x.learnt(0, p));
            add("forgot camel", ELEMENT, x -> x.forgot(0, p));
            add("quarrel camel", ELEMENT, x -> x.quarrel(p, 0) ? 1 : 0);
            add("quarrel other", ELEMENT, x -> x.quarrel(0, p) ? 1 : 0);
        }
        for (int n : new int[] {-1, MIN, MAX}) {
            add("land", ARGUMENT, x -> x.land(n));
            add("told", ARGUMENT, x -> x.told(n));
            add("camel what", ARGUMENT, x -> x.camel(0, n));
            add("grief what", ARGUMENT, x -> x.grief(0, 0, n));
            add("hurt hours", ARGUMENT, x -> x.hurt(0, 0, n));
            add("string many", ARGUMENT, x -> x.string(n, 0));
            add("value what", ARGUMENT, x -> x.value(0, n));
            add("would camels", ARGUMENT, x -> x.would(0, n));
            add("route many", ARGUMENT, x -> x.route(n, 1));
            add("hours what", ARGUMENT, x -> x.hours(n));
            add("least what", ARGUMENT, x -> x.least(0, 0, n));
            add("roped camels", ARGUMENT, x -> x.roped(n, 0));
            add("roped what", ARGUMENT, x -> x.roped(1, n));
            add("parted", ARGUMENT, x -> x.parted(n));
            add("sell", ARGUMENT, x -> x.sell(n));
            add("heal", ARGUMENT, x -> x.heal(n));
            add("lay camels", ARGUMENT, x -> x.lay(n, 0));
            add("lay hours", ARGUMENT, x -> x.lay(1, n));
            add("explain", ARGUMENT, x -> x.explain(n));
            add("compared camels", ARGUMENT, x -> x.compared(n, 0));
            add("compared others", ARGUMENT, x -> x.compared(0, n));
            add("race", ARGUMENT, x -> x.race(n));
            add("doubt q", ARGUMENT, x -> x.doubt(0, n));
            add("span q", ARGUMENT, x -> x.span(0, n, 1, 0));
            add("span many", ARGUMENT, x -> x.span(0, 0, n, 0));
            add("span what", ARGUMENT, x -> x.span(0, 0, 1, n));
            add("plan", ARGUMENT, x -> x.plan(n));
            add("run what", ARGUMENT, x -> x.run(0, n));
            add("visited hours", ARGUMENT, x -> x.visited(0, n, 0));
            add("visited what", ARGUMENT, x -> x.visited(0, 0, n));
            add("widest", ARGUMENT, x -> x.widest(n));
            add("soon", ARGUMENT, x -> x.soon(n));
            add("light", ARGUMENT, x -> x.light(n));
        }
        add("land(21)", ARGUMENT, x -> x.land(21));
        add("told(6)", ARGUMENT, x -> x.told(6));
        add("camel(0, 2)", ARGUMENT, x -> x.camel(0, 2));
        add("grief(0, 0, 2)", ARGUMENT, x -> x.grief(0, 0, 2));
        add("hurt(0, 0, 0)", ARGUMENT, x -> x.hurt(0, 0, 0));
        add("hurt(0, 0, 21)", ARGUMENT, x -> x.hurt(0, 0, 21));
        add("string(9, 1)", ARGUMENT, x -> x.string(9, 1));
        add("value(0, 5)", ARGUMENT, x -> x.value(0, 5));
        add("would(0, 8)", ARGUMENT, x -> x.would(0, 8));
        add("route(1, 0)", ARGUMENT, x -> x.route(1, 0));
        add("route(13, 1)", ARGUMENT, x -> x.route(13, 1));
        add("hours(3)", ARGUMENT, x -> x.hours(3));
        add("least(0, 0, 3)", ARGUMENT, x -> x.least(0, 0, 3));
        add("roped(0, 0)", ARGUMENT, x -> x.roped(0, 0));
        add("roped(8, 0)", ARGUMENT, x -> x.roped(8, 0));
        add("roped(1, 2)", ARGUMENT, x -> x.roped(1, 2));
        add("parted(2)", ARGUMENT, x -> x.parted(2));
        add("sell(2)", ARGUMENT, x -> x.sell(2));
        add("heal(2)", ARGUMENT, x -> x.heal(2));
        add("lay(8, 0)", ARGUMENT, x -> x.lay(8, 0));
        add("lay(1, 100)", ARGUMENT, x -> x.lay(1, 100));
        add("explain(4)", ARGUMENT, x -> x.explain(4));
        add("compared(1, 3)", ARGUMENT, x -> x.compared(1, 3));
        add("compared(8, 0)", ARGUMENT, x -> x.compared(8, 0));
        add("race(100)", ARGUMENT, x -> x.race(100));
        add("doubt(0, 9)", ARGUMENT, x -> x.doubt(0, 9));
        add("span(0, 9, 1, 0)", ARGUMENT, x -> x.span(0, 9, 1, 0));
        add("span(0, 0, 0, 0)", ARGUMENT, x -> x.span(0, 0, 0, 0));
        add("span(0, 0, 61, 0)", ARGUMENT, x -> x.span(0, 0, 61, 0));
        add("span(0, 0, 1, 3)", ARGUMENT, x -> x.span(0, 0, 1, 3));
        add("plan(21)", ARGUMENT, x -> x.plan(21));
        add("run(0, 6)", ARGUMENT, x -> x.run(0, 6));
        add("visited(0, 1000, 0)", ARGUMENT, x -> x.visited(0, 1000, 0));
        add("visited(0, 0, 2)", ARGUMENT, x -> x.visited(0, 0, 2));
        add("widest(2)", ARGUMENT, x -> x.widest(2));
        add("soon(10000)", ARGUMENT, x -> x.soon(10000));
        add("light(10000)", ARGUMENT, x -> x.light(10000));
        add("quarrel(1, 1)", ARGUMENT, x -> x.quarrel(1, 1) ? 1 : 0);
    }

    private static int reasonOf(GrievingCamels x, Asked call) {
        try {
            call.of(x);
            return -1;
        } catch (IndexOutOfBoundsException e) {
            return e.getClass() == IndexOutOfBoundsException.class ? INDEX : 9;
        } catch (java.util.NoSuchElementException e) {
            return e.getClass() == java.util.NoSuchElementException.class ? ELEMENT : 9;
        } catch (IllegalArgumentException e) {
            return e.getClass() == IllegalArgumentException.class ? ARGUMENT : 9;
        } catch (IllegalStateException e) {
            return e.getClass() == IllegalStateException.class ? STATE : 9;
        } catch (RuntimeException e) {
            return 9;
        }
    }

    /** 52: "How many calls were refused: 0 .., 1 .., 2 .., 3 ..; NONE for others." */
    private static void refusalsByReason() {
        GrievingCamels x = rich();
        long[] due = new long[4];
        for (Refused each : REFUSED) {
            Checks.is(52, each.what + " is refused by", reasonOf(x, each.call), each.reason);
            due[each.reason]++;
        }
        Checks.are(52, "how many", statuses(x), due);
        Checks.are(52, "others", new long[] {x.status(-1), x.status(4), x.status(MIN), x.status(MAX)}, -1, -1, -1, -1);
        GrievingCamels y = Checks.in(LAND);
        Asked[] states = {a -> a.hours(0), a -> a.stop(0), a -> a.whose(1), a -> a.go(), a -> a.roped(1, 0), a -> a.parted(0),
            a -> a.sell(0), a -> a.heal(0), a -> a.race(0), a -> a.doubt(0, 0), a -> a.span(0, 0, 1, 0), a -> a.learnt(0, 0),
            a -> a.forgot(0, 0), a -> a.soon(0), a -> a.heavy(), a -> a.light(0)};
        for (int i = 0; i < states.length; i++) {
            Checks.is(52, "without a journey, " + i, reasonOf(y, states[i]), STATE);
            Checks.are(52, "refused", statuses(y), 0, 0, 0, i + 1);
        }
    }

    private static void refusalsLeaveAll() {
        List<Long> before = all(rich());
        for (Refused each : REFUSED) {
            GrievingCamels x = rich();
            reasonOf(x, each.call);
            same(52, "all is as it was behind " + each.what, all(x), before);
            Checks.is(52, "images", x.count(0), 1);
            Checks.is(52, "refused once", x.status(0) + x.status(1) + x.status(2) + x.status(3), 1);
            Checks.is(52, "by its reason", x.status(each.reason), 1);
        }
    }

    /** "IndexOutOfBoundsException: no such PLACE (so below, ahead of others)"; the others as they stand in the face. */
    private static void whichRefusalGoesAhead() {
        GrievingCamels x = Checks.in(LAND);
        Asked[] index = {a -> a.grief(9, 9, 9), a -> a.grief(9, 0, 9), a -> a.grief(9, 9, 0), a -> a.hurt(9, 9, 0),
            a -> a.hurt(9, 0, 21), a -> a.soothe(9, 9), a -> a.value(9, 9), a -> a.would(9, 99), a -> a.least(0, 9, 9),
            a -> a.least(9, 9, 9), a -> a.run(9, 9), a -> a.ran(9, 0, 9), a -> a.ran(0, 9, 9), a -> a.visited(9, 9999, 9),
            a -> a.learnt(9, 9), a -> a.learnt(9, 0), a -> a.forgot(9, 9), a -> a.forgot(9, 0)};
        Asked[] element = {a -> a.camel(9, 9), a -> a.grief(0, 9, 9), a -> a.hurt(0, 9, 0), a -> a.quarrel(9, 9) ? 1 : 0,
            a -> a.learnt(0, 9), a -> a.forgot(0, 9)};
        Asked[] argument = {a -> a.hours(3), a -> a.roped(0, 0), a -> a.roped(8, 0), a -> a.roped(1, 2), a -> a.parted(2),
            a -> a.sell(2), a -> a.heal(2), a -> a.race(100), a -> a.doubt(0, 9), a -> a.span(0, 9, 1, 0),
            a -> a.span(0, 0, 61, 0), a -> a.span(0, 0, 1, 3), a -> a.soon(10000), a -> a.light(10000)};
        for (int i = 0; i < index.length; i++) {
            Checks.is(52, "the place goes ahead, " + i, reasonOf(x, index[i]), INDEX);
        }
        for (int i = 0; i < element.length; i++) {
            Checks.is(52, "then the camel, " + i, reasonOf(x, element[i]), ELEMENT);
        }
        for (int i = 0; i < argument.length; i++) {
            Checks.is(52, "then what is told, without a journey, " + i, reasonOf(x, argument[i]), ARGUMENT);
        }
        Checks.are(52, "each once", statuses(x), index.length, element.length, argument.length, 0);
    }

    /** What answers NONE, 0 or -1 is not refused. */
    private static void noneOfTheseIsRefused() {
        GrievingCamels x = Checks.in(LAND);
        long[] none = {x.row(-1), x.row(9), x.at(-1), x.at(9), x.status(-1), x.status(4), x.count(-1), x.count(3), x.undo(),
            x.restore(), x.road(0, 2), x.road(0, 0), x.route(2, 2), x.route(2, 99), x.ranRow(0, 9)};
        for (int i = 0; i < none.length; i++) {
            Checks.is(52, "none, " + i, none[i], -1);
        }
        Checks.are(12, "no such strings", new long[] {x.string(1, 9), x.string(2, 11)}, 0, 0);
        x.route(2, 1);
        Checks.are(20, "no such places", new long[] {x.stop(-1), x.stop(2), x.whose(-1), x.whose(0), x.whose(2)},
                -1, -1, -1, -1, -1);
        Checks.is(3, "a fault", Checks.land(x, "x"), -9);
        Checks.is(36, "a fault", Checks.plan(x, "x"), -9);
        Checks.are(52, "nothing was refused", statuses(x), 0, 0, 0, 0);
    }

    /** "all that is asked does not" change GRIEFS, nor anything else. */
    private static void askingLeavesAll() {
        Asked[] asked = {x -> x.fault(), x -> x.place(1), x -> x.road(0, 1), x -> x.camel(2, 1), x -> x.grief(1, 0, 0),
            x -> x.row(0), x -> x.halt(1), x -> x.value(1, 1), x -> x.would(1, 5), x -> x.at(0), x -> x.hours(0),
            x -> x.stop(2), x -> x.whose(2), x -> x.least(0, 2, 2), x -> x.roped(7, 1), x -> x.roped(3, 0), x -> x.parted(1),
            x -> x.sell(1), x -> x.heal(1), x -> x.explain(0), x -> x.compared(1, 6), x -> x.race(3), x -> x.doubt(5, 4),
            x -> x.span(5, 4, 60, 2), x -> x.run(0, 0), x -> x.ran(0, 1, 2), x -> x.ranRow(0, 0), x -> x.begin(),
            x -> x.visited(0, 99, 1), x -> x.widest(1), x -> x.learnt(1, 2), x -> x.forgot(1, 0), x -> x.soon(9),
            x -> x.quarrel(0, 2) ? 1 : 0, x -> x.shy(), x -> x.heavy(), x -> x.light(9), x -> x.status(0), x -> x.count(1),
            x -> x.told(5), x -> x.string(1, 9), x -> x.route(2, 99)};
        List<Long> before = all(rich());
        for (int i = 0; i < asked.length; i++) {
            GrievingCamels x = rich();
            long first = asked[i].of(x);
            same(22, "all is as it was behind the asking, " + i, all(x), before);
            Checks.is(22, "images", x.count(0), 1);
            Checks.is(22, "the same answer again, " + i, asked[i].of(x), first);
            Checks.are(52, "none is refused, " + i, statuses(x), 0, 0, 0, 0);
        }
    }

    /** "An object is used for at most 512 calls" */
    private static void fiveHundredAndTwelveCalls() {
        GrievingCamels x = Checks.in(LAND);
        // Telling the land: the bytes of the tape are asked for once, then they come, and become a land.
        int made = 1 + (LAND.length() + 19) / 20 + 1;
        for (int i = made + 1; i < 512; i++) {
            x.hurt(0, 0, 1);
        }
        Checks.is(10, "the 512th call", x.grief(0, 0, 1), 20);
        GrievingCamels y = new GrievingCamels();
        for (int i = 1; i < 512; i++) {
            Checks.is(52, "refused", reasonOf(y, a -> a.place(0)), INDEX);
        }
        Checks.is(52, "the 512th call", y.status(0), 511);
    }
}
