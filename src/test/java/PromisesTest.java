/** Promises 5 to 53 but for 36: each by ordinary calls, at the edges that the document names, and by wrong ones. */
public final class PromisesTest {
    private static final int MIN = Integer.MIN_VALUE;
    private static final int MAX = Integer.MAX_VALUE;

    /** A fodder, a salt, a mirage; journey 0 1 2 3 takes 9 hours by roads and 10 by halts. */
    private static final String FOUR = "place 0;place 1;place 2;place 3;road 0 1 4;road 1 2 3;road 0 2 9;road 2 3 2;"
        + "camel 50;camel 20;camel 70;hurt 0 1 6;hurt 1 1 2;hurt 1 2 5;hurt 2 3 4;hurt 0 3 3;calf 2 0;";

    /** Two places, a road of one hour, three camels with griefs of 5, 3, 2 in place 1. */
    private static final String TWO = "place 0;place 0;road 0 1 1;camel 10;camel 30;camel 20;"
        + "hurt 0 1 5;hurt 1 1 3;hurt 2 1 2;";

    public static void main(String[] args) {
        theLand();
        griefs();
        strings();
        laws();
        journeys();
        learning();
        fodderAndSalt();
        goings();
        leastWays();
        visits();
        ropings();
        partings();
        sales();
        healings();
        lines();
        comparisons();
        races();
        doubts();
        runs();
        runsByTests();
        wornRuns();
        toCome();
        lightening();
        images();
        refusals();
        Checks.end("PromisesTest");
    }

    private static void theLand() {
        GrievingCamels x = Checks.in(FOUR + "quarrel 0 2;");
        Checks.are(5, "told", new long[] {x.told(0), x.told(1), x.told(2), x.told(3), x.told(4), x.told(5)},
                4, 3, 3, 0, 0, 0);
        x.string(2, 12);
        x.route(3, 12);
        x.lay(1, 1);
        x.go();
        Checks.are(5, "told then", new long[] {x.told(2), x.told(3), x.told(4), x.told(5)}, 2, 3, 1, 1);
        Checks.argument(5, "told(-1)", () -> x.told(-1));
        Checks.argument(5, "told(6)", () -> x.told(6));
        Checks.are(6, "place", new long[] {x.place(0), x.place(1), x.place(2), x.place(3)}, 0, 1, 2, 3);
        Checks.index(6, "place(4)", () -> x.place(4));
        Checks.index(6, "place(-1)", () -> x.place(-1));
        Checks.are(7, "road", new long[] {x.road(0, 1), x.road(1, 0), x.road(3, 2), x.road(0, 3), x.road(1, 1)},
                4, 4, 2, -1, -1);
        Checks.index(7, "road(0, 4)", () -> x.road(0, 4));
        Checks.index(7, "road(-1, 0)", () -> x.road(-1, 0));
        GrievingCamels y = Checks.in("place 0;place 0;road 0 1 5;road 1 0 24;camel 0;camel 99;camel 1;calf 0 1;calf 0 2;");
        Checks.is(7, "the last road counts", y.road(0, 1), 24);
        Checks.are(8, "camel", new long[] {x.camel(0, 0), x.camel(2, 0), x.camel(2, 1), x.camel(0, 1)}, 50, 70, 0, -1);
        Checks.are(8, "the last mother counts", new long[] {y.camel(1, 0), y.camel(0, 1)}, 99, 2);
        Checks.element(8, "camel(3, 0)", () -> x.camel(3, 0));
        Checks.element(8, "camel(-1, 9)", () -> x.camel(-1, 9));
        Checks.argument(8, "camel(0, 2)", () -> x.camel(0, 2));
        Checks.argument(8, "camel(0, -1)", () -> x.camel(0, -1));
        Checks.are(46, "quarrel", new long[] {x.quarrel(0, 2) ? 1 : 0, x.quarrel(2, 0) ? 1 : 0,
            x.quarrel(0, 1) ? 1 : 0}, 1, 1, 0);
        Checks.element(46, "quarrel(0, 3)", () -> x.quarrel(0, 3) ? 1 : 0);
        Checks.element(46, "quarrel(3, 0)", () -> x.quarrel(3, 0) ? 1 : 0);
        Checks.element(46, "quarrel(-1, -1)", () -> x.quarrel(-1, -1) ? 1 : 0);
        Checks.argument(46, "quarrel(1, 1)", () -> x.quarrel(1, 1) ? 1 : 0);
    }

    private static void griefs() {
        GrievingCamels x = Checks.in("place 0;place 0;camel 1;camel 1;hurt 0 1 5;hurt 0 1 7;hurt 1 0 20;hurt 1 0 1;");
        Checks.are(9, "grief", new long[] {x.grief(1, 0, 0), x.grief(1, 0, 1), x.grief(0, 1, 0), x.grief(0, 1, 1),
            x.grief(0, 0, 0), x.grief(1, 1, 1)}, 12, 12, 20, 20, 0, 0);
        Checks.index(9, "grief(2, 0, 0)", () -> x.grief(2, 0, 0));
        Checks.index(9, "grief(-1, 9, 9)", () -> x.grief(-1, 9, 9));
        Checks.element(9, "grief(0, 2, 9)", () -> x.grief(0, 2, 9));
        Checks.argument(9, "grief(0, 0, 2)", () -> x.grief(0, 0, 2));
        Checks.argument(9, "grief(0, 0, -1)", () -> x.grief(0, 0, -1));
        Checks.is(11, "soothe", x.soothe(1, 0), 12);
        Checks.are(11, "soothed", new long[] {x.grief(1, 0, 0), x.grief(1, 0, 1), x.soothe(1, 0)}, 0, 12, 0);
        Checks.index(11, "soothe(2, 2)", () -> x.soothe(2, 2));
        Checks.element(11, "soothe(0, 2)", () -> x.soothe(0, 2));
        Checks.is(10, "hurt", x.hurt(1, 0, 3), 3);
        Checks.is(10, "its depth", x.grief(1, 0, 1), 15);
        Checks.is(10, "hurt by 20", x.hurt(1, 0, 20), 20);
        Checks.is(10, "depth is 20 at most", x.grief(1, 0, 1), 20);
        Checks.is(10, "hurt by 1", x.hurt(0, 0, 1), 1);
        Checks.index(10, "hurt(2, 2, 0)", () -> x.hurt(2, 2, 0));
        Checks.element(10, "hurt(0, 2, 0)", () -> x.hurt(0, 2, 0));
        Checks.argument(10, "hurt by 0", () -> x.hurt(0, 0, 0));
        Checks.argument(10, "hurt by 21", () -> x.hurt(0, 0, 21));
        Checks.is(10, "all stays", x.grief(0, 0, 0), 1);
    }

    private static void strings() {
        GrievingCamels x = Checks.in("camel 1;camel 1;camel 1;camel 1;quarrel 0 1;quarrel 2 1;");
        Checks.are(13, "at first", new long[] {x.row(0), x.row(1), x.row(2), x.row(3), x.row(4), x.row(-1)},
                0, 1, 2, 3, -1, -1);
        Checks.is(47, "shy", x.shy(), 2);
        Checks.is(12, "string", x.string(3, 302), 1);
        Checks.are(13, "row", new long[] {x.row(0), x.row(1), x.row(2), x.row(3), x.row(MIN), x.row(MAX)},
                3, 0, 2, -1, -1, -1);
        Checks.is(47, "none shy", x.shy(), 0);
        Checks.is(12, "a first of 0", x.string(3, 21), 1);
        Checks.are(13, "row", new long[] {x.row(0), x.row(1), x.row(2)}, 0, 2, 1);
        Checks.is(47, "one pair", x.shy(), 1);
        Checks.is(12, "one twice", x.string(3, 101), 0);
        Checks.is(12, "one is none", x.string(2, 14), 0);
        Checks.is(12, "more than there are", x.string(5, 1234), 0);
        Checks.is(12, "below 0", x.string(2, -12), 0);
        Checks.is(12, "below 0, its last digit 0", x.string(1, -10), 0);
        Checks.is(12, "a digit too many", x.string(2, 123), 0);
        Checks.is(12, "a digit too many, a zero behind it", x.string(2, 101), 0);
        Checks.is(12, "far too many digits", x.string(2, 1000000000000000012L), 0);
        Checks.is(12, "the least number", x.string(1, Long.MIN_VALUE), 0);
        Checks.is(12, "the greatest number", x.string(8, Long.MAX_VALUE), 0);
        Checks.is(12, "digits of no camels", x.string(0, 1), 0);
        Checks.is(12, "digits below 0 of no camels", x.string(0, -1), 0);
        Checks.is(12, "two digits of no camels", x.string(0, 10), 0);
        Checks.are(12, "it stays", new long[] {x.told(2), x.row(0)}, 3, 0);
        Checks.argument(12, "string(-1)", () -> x.string(-1, 0));
        Checks.argument(12, "string(9)", () -> x.string(9, 0));
        Checks.is(12, "none at all", x.string(0, 0), 1);
        Checks.are(12, "an empty row", new long[] {x.told(2), x.row(0), x.shy()}, 0, -1, 0);
        GrievingCamels y = Checks.in("camel 1;".repeat(8));
        Checks.is(12, "all eight", y.string(8, 76543210L), 1);
        Checks.is(12, "nine digits of eight", y.string(8, 176543210L), 0);
        Checks.are(12, "turned round", new long[] {y.row(0), y.row(7), y.row(8)}, 7, 0, -1);
    }

    private static long haltBy(String law, long row) {
        GrievingCamels x = Checks.in("place 0;camel 0;camel 0;camel 0;hurt 0 0 3;hurt 2 0 5;law 1;law " + law + ";");
        x.string(3, row);
        return x.halt(0);
    }

    private static void laws() {
        String[] all = {"most", "sum", "first", "last", "many", "sum*2-first", "1-2-3", "9-2-3", "9-(2-3)", "2+3*4",
            "(2+3)*4", "sum*99", "99*99*99*99*30", "0-99*99*99*99*30", "7", "0", "99", "99+1", "((((((most))))))-1"};
        int[] due = {5, 8, 3, 5, 2, 13, 0, 4, 10, 14, 20, 99, 0, 99, 7, 0, 99, 99, 4};
        for (int i = 0; i < all.length; i++) {
            Checks.is(14, "halt by " + all[i], haltBy(all[i], 12), due[i]);
        }
        Checks.is(14, "the last law counts", haltBy("most;law 2+many", 12), 4);
        Checks.is(14, "first of 1 2 0", haltBy("first", 120), 5);
        Checks.is(14, "last of 1 2 0", haltBy("last", 120), 3);
        GrievingCamels x = Checks.in("place 0;place 3;camel 0;camel 0;camel 0;camel 0;hurt 0 1 4;hurt 2 1 9;law 7+many;");
        Checks.are(14, "none has any; two in a mirage", new long[] {x.halt(0), x.halt(1)}, 0, 0);
        Checks.are(15, "value", new long[] {x.value(1, 0), x.value(1, 1), x.value(1, 2), x.value(1, 3), x.value(1, 4)},
                9, 13, 4, 9, 2);
        Checks.are(15, "value of none", new long[] {x.value(0, 0), x.value(0, 1), x.value(0, 2), x.value(0, 3),
            x.value(0, 4)}, 0, 0, 0, 0, 0);
        x.hurt(1, 1, 1);
        Checks.is(14, "three in a mirage", x.halt(1), 10);
        Checks.are(16, "would", new long[] {x.would(1, 7), x.would(1, 5), x.would(1, 8), x.would(0, 15), x.would(1, 0)},
                10, 0, 0, 0, 0);
        x.string(1, 0);
        Checks.are(16, "would by others than the string", new long[] {x.would(1, 7), x.halt(1)}, 10, 0);
        Checks.index(14, "halt(2)", () -> x.halt(2));
        Checks.index(14, "halt(-1)", () -> x.halt(-1));
        Checks.index(15, "value(2, 9)", () -> x.value(2, 9));
        Checks.argument(15, "value(0, 5)", () -> x.value(0, 5));
        Checks.argument(15, "value(0, -1)", () -> x.value(0, -1));
        Checks.index(16, "would(2, 99)", () -> x.would(2, 99));
        Checks.argument(16, "would(0, 16)", () -> x.would(0, 16));
        Checks.argument(16, "would(0, -1)", () -> x.would(0, -1));
        GrievingCamels y = Checks.in("place 0;camel 0;camel 0;camel 0;hurt 0 0 3;hurt 2 0 5;law first*10+last;");
        y.string(3, 210);
        Checks.are(16, "a row by number", new long[] {y.halt(0), y.would(0, 5)}, 53, 35);
    }

    private static void journeys() {
        GrievingCamels x = Checks.in(FOUR);
        Checks.state(19, "hours(0)", () -> x.hours(0));
        Checks.argument(19, "hours(3) without a journey", () -> x.hours(3));
        Checks.state(20, "stop(0)", () -> x.stop(0));
        Checks.state(21, "whose(0)", () -> x.whose(0));
        Checks.state(48, "heavy", x::heavy);
        Checks.is(17, "route", x.route(4, 123), 9);
        Checks.are(18, "at", new long[] {x.at(0), x.at(1), x.at(3), x.at(4), x.at(-1)}, 0, 1, 3, -1, -1);
        Checks.is(17, "not joined", x.route(2, 3), -1);
        Checks.is(17, "no place", x.route(2, 14), -1);
        Checks.is(17, "twice the same", x.route(2, 11), -1);
        Checks.is(17, "below 0", x.route(2, -10), -1);
        Checks.is(17, "a digit too many", x.route(2, 123), -1);
        Checks.is(17, "a digit too many, ahead of a zero", x.route(2, 101), -1);
        Checks.is(17, "far too many digits", x.route(2, 1000000000000000012L), -1);
        Checks.is(17, "the least number", x.route(2, Long.MIN_VALUE), -1);
        Checks.is(17, "thirteen digits of twelve", x.route(12, 1010101010101L), -1);
        Checks.is(17, "it stays", x.told(3), 4);
        Checks.argument(17, "one place", () -> x.route(1, 0));
        Checks.argument(17, "13 places", () -> x.route(13, 0));
        Checks.are(19, "hours", new long[] {x.hours(0), x.hours(1), x.hours(2), x.hours(0)}, 19, 9, 10, 19);
        Checks.argument(19, "hours(3)", () -> x.hours(3));
        Checks.argument(19, "hours(-1)", () -> x.hours(-1));
        Checks.are(20, "stop", new long[] {x.stop(0), x.stop(1), x.stop(2), x.stop(3), x.stop(4), x.stop(-1)},
                0, 6, 4, 0, -1, -1);
        Checks.are(21, "whose", new long[] {x.whose(0), x.whose(1), x.whose(2), x.whose(3), x.whose(4), x.whose(-1)},
                -1, 0, 1, 2, -1, -1);
        GrievingCamels h = Checks.in(FOUR);
        h.route(4, 123);
        h.soothe(1, 0);
        Checks.is(48, "heavy, asked first", h.heavy(), 2);
        Checks.is(48, "heavy", x.heavy(), 1);
        Checks.is(17, "twelve places", x.route(12, 10101010101L), 44);
        Checks.is(18, "the last one", x.at(11), 1);
        GrievingCamels y = Checks.in("place 0;place 0;place 0;road 0 1 1;road 1 2 1;camel 0;camel 0;camel 0;"
            + "hurt 1 1 4;hurt 2 1 4;hurt 0 2 3;hurt 2 2 3;");
        y.route(4, 1210);
        y.string(3, 201);
        Checks.are(21, "the first of the row", new long[] {y.whose(1), y.whose(2), y.whose(3)}, 2, 2, -1);
        y.route(4, 2121);
        Checks.is(48, "heavy, of these the first", y.heavy(), 1);
        y.route(4, 1212);
        Checks.is(48, "heavy behind", y.heavy(), 2);
        y.route(2, 12);
        Checks.are(20, "behind a shorter one", new long[] {y.at(1), y.at(2), y.stop(1), y.stop(2), y.whose(1), y.whose(2),
            y.heavy()}, 2, -1, 3, -1, 2, -1, 1);
        y.string(2, 10);
        Checks.are(21, "by a shorter string", new long[] {y.whose(1), y.hurt(2, 1, 1), y.whose(1)}, 0, 1, 0);
        y.string(1, 1);
        Checks.are(21, "a grief of 1", new long[] {y.whose(1), y.stop(1)}, 1, 1);
        y.string(0, 0);
        Checks.are(48, "none halts", new long[] {y.heavy(), y.whose(1), y.hours(0)}, 1, -1, 1);
    }

    private static void learning() {
        String land = "place 0;place 0;road 0 1 1;camel 0;camel 0;camel 0;calf 1 0;calf 2 1;hurt 0 1 9;";
        GrievingCamels x = Checks.in(land);
        x.route(2, 1);
        x.go();
        Checks.are(22, "half, cut; what the mother learns just now does not count", griefsAt(x, 1), 9, 4, 0);
        Checks.is(22, "depth is what is learnt", x.grief(1, 1, 1), 4);
        x.go();
        Checks.are(22, "the calf's calf", griefsAt(x, 1), 9, 4, 2);
        GrievingCamels y = Checks.in(land + "hurt 1 1 5;hurt 2 1 6;");
        y.soothe(1, 2);
        y.string(2, 12);
        y.route(2, 1);
        y.go();
        Checks.are(22, "only by a mother of the row", griefsAt(y, 1), 9, 5, 2);
        Checks.is(22, "depth is the greater", y.grief(1, 2, 1), 6);
        y.string(3, 12);
        y.go();
        Checks.are(22, "only if that is more", griefsAt(y, 1), 9, 5, 2);
        GrievingCamels w = Checks.in(land);
        w.route(2, 1);
        w.string(3, 12);
        w.string(2, 12);
        w.string(1, 0);
        w.go();
        Checks.are(22, "no calf that was of the row", griefsAt(w, 1), 9, 0, 0);
        w.string(3, 12);
        w.string(2, 10);
        w.go();
        Checks.are(22, "a calf ahead of its mother", griefsAt(w, 1), 9, 4, 0);
        GrievingCamels z = Checks.in(land);
        z.route(2, 10);
        z.go();
        Checks.are(22, "in the first place nothing is learnt", griefsAt(z, 1), 9, 0, 0);
    }

    private static long[] griefsAt(GrievingCamels x, int place) {
        long[] all = new long[x.told(1)];
        for (int i = 0; i < all.length; i++) {
            all[i] = x.grief(place, i, 0);
        }
        return all;
    }

    private static void fodderAndSalt() {
        GrievingCamels x = Checks.in("place 1;place 2;place 0;road 0 1 1;road 0 2 1;road 1 2 1;camel 0;camel 0;camel 0;"
            + "hurt 0 0 1;hurt 0 1 3;hurt 0 2 2;hurt 1 2 5;hurt 2 2 7;");
        x.string(2, 1);
        x.route(2, 20);
        Checks.is(22, "the halt is ahead of the fodder", x.go(), 2);
        Checks.are(22, "fodder, everywhere", new long[] {x.grief(0, 0, 0), x.grief(1, 0, 0), x.grief(2, 0, 0),
            x.grief(2, 1, 0), x.grief(2, 2, 0), x.grief(1, 1, 0)}, 0, 2, 1, 4, 7, 0);
        x.go();
        Checks.are(22, "and again", new long[] {x.grief(1, 0, 0), x.grief(2, 0, 0), x.grief(2, 1, 0)}, 1, 0, 3);
        x.route(2, 1);
        Checks.is(22, "the halt is ahead of the salt", x.go(), 2);
        Checks.are(22, "salt, where there is any", new long[] {x.grief(0, 0, 0), x.grief(1, 0, 0), x.grief(2, 0, 0),
            x.grief(2, 1, 0), x.grief(2, 2, 0)}, 0, 2, 0, 4, 7);
        x.go();
        x.go();
        Checks.are(22, "to the depth at most", new long[] {x.grief(1, 0, 0), x.grief(2, 1, 0), x.grief(2, 2, 0),
            x.grief(2, 1, 1)}, 3, 5, 7, 5);
        GrievingCamels z = Checks.in("place 0;place 1;place 2;road 0 1 1;road 1 2 1;camel 0;camel 0;hurt 1 0 4;");
        z.route(3, 210);
        z.soothe(0, 1);
        z.hurt(0, 1, 2);
        z.go();
        z.route(2, 12);
        z.go();
        Checks.is(22, "salt, in place 0", z.grief(0, 1, 0), 2);
        GrievingCamels y = Checks.in("place 0;place 1;road 0 1 1;camel 0;camel 0;calf 1 0;hurt 0 1 2;");
        y.route(2, 1);
        y.go();
        Checks.are(22, "what is learnt is forgotten, too", griefsAt(y, 1), 1, 0);
    }

    private static void goings() {
        GrievingCamels x = Checks.in(FOUR);
        Checks.state(22, "go without a journey", x::go);
        Checks.is(23, "undo of nothing", x.undo(), -1);
        x.route(4, 123);
        Checks.is(22, "go", x.go(), 19);
        Checks.are(22, "griefs then", new long[] {x.grief(1, 0, 0), x.grief(1, 1, 0), x.grief(1, 2, 0),
            x.grief(1, 2, 1), x.grief(2, 1, 0), x.grief(3, 2, 0), x.grief(3, 0, 0)}, 6, 2, 3, 3, 5, 4, 3);
        Checks.are(5, "gone", new long[] {x.told(5), x.count(2)}, 1, 1);
        x.hurt(0, 0, 7);
        x.string(1, 2);
        Checks.is(23, "undo", x.undo(), 0);
        Checks.are(23, "all is as ahead", new long[] {x.grief(1, 2, 0), x.grief(1, 2, 1), x.grief(0, 0, 0),
            x.grief(0, 0, 1), x.told(5), x.count(2), x.told(2), x.told(3)}, 0, 0, 0, 0, 0, 0, 1, 4);
        Checks.is(23, "undo of nothing then", x.undo(), -1);
        GrievingCamels y = Checks.in("place 0;place 1;road 0 1 1;camel 0;hurt 0 1 20;hurt 0 0 9;");
        y.route(2, 1);
        for (int i = 0; i < 24; i++) {
            Checks.is(22, "going " + i, y.go(), 1 + Math.max(0, 20 - i));
        }
        Checks.is(22, "a 25th", y.go(), -1);
        Checks.are(22, "24 of them", new long[] {y.told(5), y.count(2), y.grief(1, 0, 0)}, 24, 24, 0);
        for (int i = 23; i >= 0; i--) {
            Checks.is(23, "undo to " + i, y.undo(), i);
            Checks.is(23, "grief then", y.grief(1, 0, 0), Math.max(0, 20 - i));
        }
        Checks.is(22, "go once more", y.go(), 21);
    }

    private static void leastWays() {
        GrievingCamels x = Checks.in("place 0;place 0;place 0;place 0;place 0;road 0 1 2;road 1 3 2;road 0 2 1;"
            + "road 2 3 3;camel 0;camel 0;");
        Checks.are(24, "of alike ones the first", new long[] {x.least(0, 3, 0), x.least(0, 3, 1), x.least(0, 3, 2)},
                4, 3, 13);
        x.hurt(1, 0, 1);
        Checks.are(24, "with a halt", new long[] {x.least(0, 3, 0), x.least(0, 3, 1), x.least(0, 3, 2),
            x.least(3, 0, 2)}, 4, 3, 23, 320);
        x.hurt(2, 1, 2);
        x.hurt(0, 1, 9);
        x.hurt(3, 1, 3);
        Checks.are(24, "none in the first place, one in the last",
                new long[] {x.least(0, 3, 0), x.least(3, 0, 0), x.least(0, 3, 2)}, 8, 14, 13);
        Checks.are(24, "from one to itself", new long[] {x.least(2, 2, 0), x.least(2, 2, 1), x.least(2, 2, 2)}, 0, 1, 2);
        Checks.are(24, "no way", new long[] {x.least(0, 4, 0), x.least(4, 0, 1), x.least(0, 4, 2)}, -1, -1, -1);
        x.string(0, 0);
        Checks.is(24, "by the string of now", x.least(0, 3, 0), 4);
        Checks.index(24, "least(5, 0, 9)", () -> x.least(5, 0, 9));
        Checks.index(24, "least(0, -1, 0)", () -> x.least(0, -1, 0));
        Checks.argument(24, "least(0, 0, 3)", () -> x.least(0, 0, 3));
        Checks.argument(24, "least(0, 0, -1)", () -> x.least(0, 0, -1));
        StringBuilder chain = new StringBuilder("place 0;".repeat(10));
        for (int i = 0; i < 9; i++) {
            chain.append("road ").append(i).append(" ").append(i + 1).append(" 24;");
        }
        GrievingCamels y = Checks.in(chain + "camel 0;" + "hurt 0 9 20;law 99;");
        Checks.are(24, "ten places", new long[] {y.least(9, 0, 0), y.least(9, 0, 1), y.least(9, 0, 2),
            y.least(0, 9, 0), y.least(0, 9, 2)}, 216, 10, 9876543210L, 315, 123456789L);
        Checks.are(42, "widest", new long[] {y.widest(0), y.widest(1)}, 315, 9);
        Checks.are(42, "of alike ones the first two", new long[] {Checks.in(TWO + "law 0;").widest(0),
            Checks.in(TWO + "law 0;").widest(1)}, 1, 1);
        Checks.is(42, "the other way round", Checks.in("place 0;place 0;road 0 1 1;camel 0;hurt 0 0 1;").widest(1), 10);
        GrievingCamels z = Checks.in("place 0;place 0;camel 0;");
        Checks.are(42, "none joined", new long[] {z.widest(0), z.widest(1)}, -1, -1);
        Checks.argument(42, "widest(2)", () -> z.widest(2));
        Checks.argument(42, "widest(-1)", () -> z.widest(-1));
    }

    private static void visits() {
        GrievingCamels x = Checks.in("place 0;place 0;place 0;place 0;place 0;road 0 1 2;road 0 2 2;road 0 3 5;camel 0;"
            + "hurt 0 0 1;");
        int[] hours = {0, 1, 2, 4, 6, 7, 9, 10, 12, 999};
        // There and back through 0 takes 3: 2 and the halt in 0.
        int[] bits = {1, 1, 3, 3, 3, 7, 7, 7, 7, 15};
        for (int i = 0; i < hours.length; i++) {
            Checks.is(41, "visited within " + hours[i], x.visited(0, hours[i], 1), bits[i]);
            Checks.is(41, "how many within " + hours[i], x.visited(0, hours[i], 0), Integer.bitCount(bits[i]));
        }
        // 0 1 0 2 0 3: 2 + 3 + 2 + 3 + 5.
        Checks.are(41, "all of them", new long[] {x.visited(0, 14, 1), x.visited(0, 15, 1), x.visited(4, 999, 1)},
                7, 15, 16);
        Checks.is(41, "the least bits", x.visited(3, 8, 1), 11);
        Checks.index(41, "visited(5, -1, 9)", () -> x.visited(5, -1, 9));
        Checks.argument(41, "visited(0, -1, 0)", () -> x.visited(0, -1, 0));
        Checks.argument(41, "visited(0, 1000, 0)", () -> x.visited(0, 1000, 0));
        Checks.argument(41, "visited(0, 0, 2)", () -> x.visited(0, 0, 2));
    }

    private static void ropings() {
        String land = "place 0;place 0;road 0 1 1;" + "camel 0;".repeat(7) + "hurt 0 1 5;hurt 1 1 2;law first;";
        GrievingCamels x = Checks.in(land);
        Checks.state(25, "roped without a journey", () -> x.roped(7, 0));
        Checks.argument(25, "roped(0) without a journey", () -> x.roped(0, 0));
        x.route(2, 1);
        Checks.are(25, "roped", new long[] {x.roped(7, 0), x.roped(7, 1), x.roped(4, 1), x.roped(1, 0), x.roped(63, 1)},
                3, 102, 2, 6, 102345);
        Checks.argument(25, "more than 6", () -> x.roped(127, 0));
        Checks.argument(25, "of no camels", () -> x.roped(128, 0));
        Checks.argument(25, "below 0", () -> x.roped(-1, 0));
        Checks.argument(25, "what", () -> x.roped(1, 2));
        GrievingCamels y = Checks.in(land + "quarrel 1 0;");
        y.route(2, 1);
        Checks.are(25, "past a quarrel", new long[] {y.roped(7, 0), y.roped(7, 1), y.roped(3, 0), y.roped(3, 1),
            y.roped(2, 1)}, 3, 120, -1, -1, 1);
        y.string(1, 6);
        Checks.is(25, "of told camels, not of the string", y.roped(7, 0), 3);
        GrievingCamels z = Checks.in("place 0;place 0;place 0;road 0 1 1;road 1 2 1;camel 0;camel 0;hurt 0 1 5;"
            + "hurt 1 1 2;hurt 0 2 1;hurt 1 2 5;law last;");
        z.route(3, 12);
        Checks.are(25, "of alike ones the first", new long[] {z.roped(3, 0), z.roped(3, 1)}, 8, 10);
    }

    private static void partings() {
        GrievingCamels x = Checks.in(TWO + "law sum;");
        Checks.state(26, "parted without a journey", () -> x.parted(0));
        Checks.argument(26, "parted(2)", () -> x.parted(2));
        x.route(2, 1);
        Checks.are(26, "parted", new long[] {x.parted(0), x.parted(1)}, 6, 1);
        x.string(3, 201);
        Checks.are(26, "the first of the row is in the first", new long[] {x.parted(0), x.parted(1)}, 6, 6);
        x.string(1, 0);
        Checks.are(26, "one alone", new long[] {x.parted(0), x.parted(1)}, 6, 1);
        x.string(0, 0);
        Checks.are(26, "none", new long[] {x.parted(0), x.parted(1)}, 0, 0);
        GrievingCamels y = Checks.in("place 0;place 0;road 0 1 3;camel 0;camel 0;camel 0;");
        y.route(2, 1);
        y.string(3, 210);
        Checks.are(26, "of alike ones the least", new long[] {y.parted(0), y.parted(1)}, 3, 4);
        GrievingCamels z = Checks.in("place 0;place 0;road 0 1 1;camel 0;camel 0;camel 0;hurt 0 1 9;hurt 1 1 2;"
            + "hurt 2 1 1;law first;");
        z.route(2, 1);
        z.string(3, 102);
        Checks.are(26, "each keeps its order", new long[] {z.parted(0), z.parted(1)}, 3, 3);
    }

    private static void sales() {
        GrievingCamels x = Checks.in("place 0;place 0;road 0 1 1;camel 10;camel 30;camel 20;hurt 0 1 5;hurt 1 1 5;law sum;");
        Checks.state(27, "sell without a journey", () -> x.sell(0));
        Checks.argument(27, "sell(2)", () -> x.sell(2));
        x.route(2, 1);
        Checks.are(27, "the greatest price", new long[] {x.sell(0), x.sell(1)}, 1, 6);
        x.hurt(1, 0, 1);
        Checks.are(27, "the fewest hours", new long[] {x.sell(0), x.sell(1)}, 0, 6);
        x.string(1, 2);
        Checks.are(27, "one alone", new long[] {x.sell(0), x.sell(1)}, 2, 1);
        x.string(0, 0);
        Checks.are(27, "none", new long[] {x.sell(0), x.sell(1)}, -1, -1);
        GrievingCamels y = Checks.in("place 0;place 0;road 0 1 1;camel 7;camel 7;camel 7;");
        y.route(2, 1);
        y.string(3, 201);
        Checks.is(27, "the first of the row", y.sell(0), 2);
    }

    private static void healings() {
        GrievingCamels x = Checks.in("place 0;place 0;place 0;road 0 1 1;road 1 2 1;camel 0;camel 0;hurt 0 1 5;"
            + "hurt 1 1 5;hurt 0 2 6;hurt 1 2 2;law sum;");
        Checks.state(28, "heal without a journey", () -> x.heal(0));
        Checks.argument(28, "heal(-1)", () -> x.heal(-1));
        x.route(3, 12);
        Checks.are(28, "heal", new long[] {x.heal(0), x.heal(1), x.hours(0)}, 1, 10, 20);
        x.string(1, 0);
        Checks.are(28, "for the string", new long[] {x.heal(0), x.heal(1)}, 2, 7);
        x.string(0, 0);
        Checks.are(28, "the first place", new long[] {x.heal(0), x.heal(1)}, 0, 2);
        Checks.is(28, "nothing is healed", x.grief(2, 0, 0), 6);
    }

    private static void lines() {
        GrievingCamels x = Checks.in(FOUR);
        Checks.are(31, "without lines", explained(x), 216, 0, 0, 0);
        Checks.is(29, "lay", x.lay(7, 5), 1);
        Checks.is(29, "lay", x.lay(1, 0), 2);
        Checks.is(29, "lay", x.lay(2, 3), 3);
        Checks.are(31, "explained", explained(x), 1, 23, 6, 1);
        Checks.is(5, "lines", x.told(4), 3);
        x.lay(0, 0);
        Checks.are(31, "no camels, no halt", explained(x), 1, 23, 6, 1);
        x.lay(0, 1);
        Checks.are(31, "no way", explained(x), 0, -1, 0, 0);
        Checks.is(30, "clear", x.clear(), 5);
        Checks.is(30, "clear", x.clear(), 0);
        Checks.are(31, "without lines again", explained(x), 216, 0, 0, 0);
        for (int i = 1; i <= 9; i++) {
            Checks.is(29, "line " + i, x.lay(3, 4), i);
        }
        Checks.is(29, "a tenth", x.lay(3, 4), -1);
        // 4 is the greater of two: 9 ways, and 6 for the third camel each.
        Checks.are(31, "nine alike lines", explained(x), 54, 24, 0, 0);
        Checks.argument(29, "lay(8, 0)", () -> x.lay(8, 0));
        Checks.argument(29, "lay(-1, 0)", () -> x.lay(-1, 0));
        Checks.argument(29, "lay(1, -1)", () -> x.lay(1, -1));
        Checks.argument(29, "lay(1, 100)", () -> x.lay(1, 100));
        Checks.argument(31, "explain(4)", () -> x.explain(4));
        Checks.argument(31, "explain(-1)", () -> x.explain(-1));
        GrievingCamels y = Checks.in("camel 0;".repeat(8) + "law many*10+first;");
        Checks.are(31, "eight camels", explained(y), 46656, 0, 0, 0);
        y.lay(255, 15);
        // One camel alone has grief, of 5: camel 5's is the first.
        Checks.are(31, "one of six", explained(y), 6, 5, 0, 0);
        y.lay(192, 0);
        y.lay(60, 0);
        Checks.are(31, "one of two", explained(y), 2, 6480, 0, 60);
        y.lay(129, 15);
        Checks.are(31, "that one", explained(y), 1, 38880, 1, 62);
        y.lay(64, 11);
        Checks.are(31, "camel 6 has none", explained(y), 0, -1, 0, 0);
        Checks.land(y, "camel 0;camel 0;");
        Checks.are(31, "another land", explained(y), 36, 0, 0, 0);
        GrievingCamels z = Checks.in("place 3;camel 0;");
        z.lay(1, 2);
        Checks.are(31, "a mirage is not in question", explained(z), 1, 2, 1, 0);
        z.lay(1, 99);
        Checks.are(31, "contrary lines", explained(z), 0, -1, 0, 0);
    }

    private static long[] explained(GrievingCamels x) {
        return new long[] {x.explain(0), x.explain(1), x.explain(2), x.explain(3)};
    }

    private static void comparisons() {
        GrievingCamels x = Checks.in(FOUR);
        // Place 1: 0 has 6, 1 has 2, 2 has 0: 1 and 3 more. Place 2: 1 has 5: 2 more. Place 3: 2 has 4, 0 has 3: 1 more.
        Checks.is(32, "compared", x.compared(1, 6), 7);
        Checks.is(32, "the other way round", x.compared(6, 1), 7);
        Checks.is(32, "nobody to meet", x.compared(7, 0), 0);
        Checks.is(32, "nobody at all", x.compared(0, 0), 0);
        Checks.is(32, "nothing is learnt", x.grief(1, 2, 0), 0);
        Checks.argument(32, "one in both", () -> x.compared(3, 6));
        Checks.argument(32, "compared(8, 1)", () -> x.compared(8, 1));
        Checks.argument(32, "compared(1, 8)", () -> x.compared(1, 8));
        Checks.argument(32, "compared(-2, 1)", () -> x.compared(-2, 1));
        GrievingCamels y = Checks.in("place 0;camel 0;camel 0;hurt 0 0 5;hurt 1 0 2;");
        Checks.is(32, "half is cut", y.compared(1, 2), 0);
        y.hurt(0, 0, 1);
        Checks.is(32, "in place 0, too", y.compared(2, 1), 1);
    }

    private static void races() {
        GrievingCamels x = Checks.in(FOUR);
        Checks.state(33, "race without a journey", () -> x.race(0));
        Checks.argument(33, "race(100) without a journey", () -> x.race(100));
        x.route(4, 123);
        Checks.are(33, "race", new long[] {x.race(0), x.race(6), x.race(7), x.race(10), x.race(11), x.race(99)},
                1, 1, 2, 2, -1, -1);
        Checks.argument(33, "race(-1)", () -> x.race(-1));
        x.route(2, 1);
        Checks.are(33, "a shorter journey", new long[] {x.race(6), x.race(7)}, 1, -1);
        x.string(0, 0);
        Checks.are(33, "without halts", new long[] {x.race(0), x.race(1)}, 1, -1);
    }

    private static void doubts() {
        GrievingCamels x = Checks.in(FOUR);
        Checks.state(34, "doubt without a journey", () -> x.doubt(0, 0));
        Checks.state(35, "span without a journey", () -> x.span(0, 0, 1, 0));
        Checks.argument(34, "doubt(0, 9) without a journey", () -> x.doubt(0, 9));
        x.route(4, 123);
        Checks.are(34, "by 0 and by 8", new long[] {x.doubt(5, 0), x.doubt(5, 8)}, 19, 22);
        for (int seed : new int[] {0, 1, 5, -1, MIN, MAX, 123456789}) {
            for (int q = 0; q <= 8; q++) {
                Checks.is(34, "doubt(" + seed + ", " + q + ")", x.doubt(seed, q), 19 + delays(seed, q, 3));
            }
        }
        Checks.argument(34, "doubt(0, -1)", () -> x.doubt(0, -1));
        for (int seed : new int[] {7, MAX - 3}) {
            long least = 99;
            long greatest = 0;
            long all = 0;
            for (int i = 0; i < 10; i++) {
                long hours = 19 + delays(seed + i, 4, 3);
                least = Math.min(least, hours);
                greatest = Math.max(greatest, hours);
                all += hours;
            }
            Checks.are(35, "span of " + seed, new long[] {x.span(seed, 4, 10, 0), x.span(seed, 4, 10, 1),
                x.span(seed, 4, 10, 2)}, least, greatest, all);
        }
        GrievingCamels y = Checks.in(FOUR);
        y.route(4, 123);
        Checks.is(35, "span, asked first", y.span(5, 0, 1, 1), 19);
        Checks.are(35, "one seed, sixty seeds", new long[] {x.span(5, 8, 1, 2), x.span(5, 8, 60, 2)}, 22, 1320);
        Checks.argument(35, "span(5, 9, 3, 2)", () -> x.span(5, 9, 3, 2));
        Checks.argument(35, "no seed", () -> x.span(5, 8, 0, 2));
        Checks.argument(35, "61 seeds", () -> x.span(5, 8, 61, 2));
        Checks.argument(35, "what", () -> x.span(5, 8, 1, 3));
    }

    private static int delays(int seed, int q, int roads) {
        java.math.BigInteger s = java.math.BigInteger.valueOf(seed);
        int late = 0;
        for (int i = 0; i < roads; i++) {
            s = s.multiply(java.math.BigInteger.valueOf(1103515245)).add(java.math.BigInteger.valueOf(12345))
                .mod(java.math.BigInteger.TWO.pow(32));
            int drawn = s.shiftRight(16).intValue() % 8;
            late += drawn < q ? 1 : 0;
        }
        return late;
    }

    private static long[] runOf(GrievingCamels x, String plan, int from) {
        Checks.is(37, "fault of " + plan, Checks.plan(x, plan) < 0 ? x.fault() : -1, -1);
        return new long[] {x.run(from, 0), x.run(from, 1), x.run(from, 2), x.run(from, 3), x.run(from, 4),
            x.run(from, 5)};
    }

    private static void runs() {
        GrievingCamels x = Checks.in(FOUR);
        Checks.are(37, "no plan", new long[] {x.run(2, 0), x.run(2, 1), x.run(2, 3), x.run(2, 5)}, 0, 2, 0, 3);
        Checks.are(37, "go", runOf(x, "go 1;go 2;go 3;", 0), 19, 3, 0, 3, 0, 3);
        Checks.are(37, "go by 3", runOf(x, "go 1;go 2;go 3;", 3), 9, 3, 1, 3, 0, 3);
        Checks.are(38, "griefs behind", new long[] {x.ran(0, 1, 2), x.ran(0, 3, 0), x.ran(0, 1, 0), x.grief(1, 2, 0)},
                3, 3, 6, 0);
        Checks.are(37, "go to itself", runOf(x, "go 0;go 0;", 0), 0, 0, 2, 2, 0, 3);
        Checks.are(37, "wait", runOf(x, "wait 99;wait 1;", 1), 100, 1, 0, 2, 0, 3);
        Checks.are(37, "drop", runOf(x, "drop 0;drop 0;go 1;", 0), 6, 1, 0, 3, 0, 2);
        Checks.are(39, "row", new long[] {x.ranRow(0, 0), x.ranRow(0, 1), x.ranRow(0, 2), x.ranRow(0, -1), x.row(0)},
                1, 2, -1, -1, 0);
        runOf(x, "drop 0;join 0;join 1;", 0);
        Checks.are(39, "join", new long[] {x.ranRow(0, 0), x.ranRow(0, 1), x.ranRow(0, 2)}, 1, 2, 0);
        runOf(x, "lead 1;drop 2;lead 2;", 0);
        Checks.are(39, "lead", new long[] {x.ranRow(0, 0), x.ranRow(0, 1), x.ranRow(0, 2), x.ranRow(0, 3)}, 2, 1, 0, -1);
        runOf(x, "drop 1;feed;feed;", 0);
        Checks.are(38, "feed", new long[] {x.ran(0, 1, 0), x.ran(0, 1, 1), x.ran(0, 3, 2), x.ran(0, 1, 2)}, 4, 2, 2, 0);
        runOf(x, "feed;feed;remind;remind;remind;", 0);
        Checks.are(38, "remind", new long[] {x.ran(0, 1, 0), x.ran(0, 1, 1), x.ran(0, 2, 1)}, 6, 0, 5);
        Checks.are(37, "again", runOf(x, "again 3[wait 2;again 2[wait 1;];];again 0[wait 50;];", 0), 12, 0, 0, 14, 0, 3);
        x.string(1, 1);
        Checks.are(37, "by the string's row", runOf(x, "go 1;", 0), 6, 1, 0, 1, 0, 1);
        x.string(3, 12);
        runOf(x, "go 2;", 0);
        // From 0: 9 and 5; from 1: 3 and 5; from 2: lost at once; from 3: 2 and 5.
        Checks.is(40, "begin", x.begin(), 2);
        runOf(x, "go 0;", 0);
        Checks.is(40, "the first of alike ones", x.begin(), 0);
        Checks.index(37, "run(4, 9)", () -> x.run(4, 9));
        Checks.argument(37, "run(0, 6)", () -> x.run(0, 6));
        Checks.argument(37, "run(0, -1)", () -> x.run(0, -1));
        Checks.index(38, "ran(4, 0, 0)", () -> x.ran(4, 0, 0));
        Checks.index(38, "ran(0, 4, 9)", () -> x.ran(0, 4, 9));
        Checks.element(38, "ran(0, 0, 3)", () -> x.ran(0, 0, 3));
        Checks.index(39, "ranRow(-1, 0)", () -> x.ranRow(-1, 0));
        Checks.is(40, "no place", new GrievingCamels().begin(), -1);
    }

    private static void runsByTests() {
        GrievingCamels x = Checks.in(FOUR);
        // if counts once, the steps of its block each.
        Checks.are(37, "if", runOf(x, "if here=0[wait 1;]else[wait 2;];", 0), 1, 0, 0, 2, 0, 3);
        Checks.are(37, "else", runOf(x, "if here=0[wait 1;]else[wait 2;];", 1), 2, 1, 0, 2, 0, 3);
        Checks.are(37, "no else", runOf(x, "if here>0[wait 1;];wait 5;", 0), 5, 0, 0, 2, 0, 3);
        // A while counts each time T is asked: 4 times, and 3 steps.
        Checks.are(37, "while", runOf(x, "while hours<3[wait 1;];", 0), 3, 0, 0, 7, 0, 3);
        Checks.are(37, "never", runOf(x, "while 1>1[wait 1;];", 0), 0, 0, 0, 1, 0, 3);
        Checks.are(37, "steps, this one not", runOf(x, "wait 0;if steps=1[wait 7;];", 0), 7, 0, 0, 3, 0, 3);
        Checks.are(37, "steps of a while", runOf(x, "while steps<3[feed;];wait 1;", 0), 1, 0, 0, 6, 0, 3);
        Checks.are(37, "halt", runOf(x, "if halt=6[wait 1;];", 1), 1, 1, 0, 2, 0, 3);
        Checks.are(37, "grief", runOf(x, "if grief 1=2[wait 1;];", 1), 1, 1, 0, 2, 0, 3);
        Checks.are(37, "row", runOf(x, "while row>1[drop 0;drop 1;];", 1), 0, 1, 0, 4, 0, 1);
        Checks.are(37, "lost", runOf(x, "while lost<2[go 3;];", 0), 0, 0, 2, 5, 0, 3);
        Checks.are(37, "sums", runOf(x, "if 10-2-3+here=6-here+1[wait 1;];", 1), 1, 1, 0, 2, 0, 3);
        Checks.are(37, "less than none", runOf(x, "if 0-5<here-4[wait 1;];if 0-5>0-6[wait 2;];", 0), 3, 0, 0, 4, 0, 3);
        Checks.are(37, "nested", runOf(x, "again 2[if hours<1[wait 1;]else[again 2[wait 10;];];];", 0),
                21, 0, 0, 7, 0, 3);
    }

    private static void wornRuns() {
        GrievingCamels x = Checks.in(FOUR);
        Checks.are(37, "for ever", runOf(x, "while 1=1[];wait 9;", 0), 0, 0, 0, 300, 1, 3);
        Checks.are(37, "for ever, with steps", runOf(x, "while 1=1[wait 1;];", 0), 150, 0, 0, 300, 1, 3);
        // 1 and 15 times 1 and 19: 301.
        Checks.are(37, "the last step is one too many", runOf(x, "again 15[again 19[wait 1;];];", 0),
                284, 0, 0, 300, 1, 3);
        // 1 and 13 times 1 and 22 are 300.
        Checks.are(37, "300 and no more", runOf(x, "again 13[again 20[wait 1;];wait 1;wait 1;];", 0),
                286, 0, 0, 300, 0, 3);
        Checks.are(37, "one behind 300", runOf(x, "again 13[again 20[wait 1;];wait 1;wait 1;];wait 1;", 0),
                286, 0, 0, 300, 1, 3);
        Checks.are(37, "again and again", runOf(x, "again 20[again 20[again 20[feed;];];];", 0), 0, 0, 0, 300, 1, 3);
    }

    private static void toCome() {
        GrievingCamels x = Checks.in("place 0;place 1;road 0 1 2;camel 0;camel 0;calf 1 0;hurt 0 1 20;hurt 0 0 2;");
        Checks.state(43, "learnt without a journey", () -> x.learnt(0, 0));
        Checks.state(44, "forgot without a journey", () -> x.forgot(0, 0));
        Checks.state(45, "soon without a journey", () -> x.soon(0));
        Checks.argument(45, "soon(-1) without a journey", () -> x.soon(-1));
        x.route(2, 1);
        Checks.are(43, "learnt", new long[] {x.learnt(1, 1), x.learnt(1, 0), x.learnt(0, 0), x.learnt(0, 1)},
                1, 1, 1, -1);
        Checks.are(44, "forgot", new long[] {x.forgot(1, 0), x.forgot(0, 0), x.forgot(0, 1)}, 20, 2, 1);
        Checks.are(45, "soon", new long[] {x.soon(22), x.soon(21), x.soon(9999), x.soon(2), x.soon(1)}, 1, 2, 1, 21, -1);
        x.string(1, 1);
        Checks.are(44, "not of the string", new long[] {x.forgot(1, 0), x.learnt(1, 1)}, -1, -1);
        Checks.is(45, "nothing is forgotten", x.grief(1, 0, 0), 20);
        Checks.index(43, "learnt(2, 2)", () -> x.learnt(2, 2));
        Checks.element(43, "learnt(0, 2)", () -> x.learnt(0, 2));
        Checks.index(44, "forgot(-1, 2)", () -> x.forgot(-1, 2));
        Checks.element(44, "forgot(0, -1)", () -> x.forgot(0, -1));
        Checks.argument(45, "soon(10000)", () -> x.soon(10000));
        GrievingCamels y = Checks.in("place 0;place 1;road 0 1 1;camel 0;hurt 0 1 20;hurt 0 0 20;");
        y.route(4, 101);
        y.go();
        y.go();
        // Each going comes to the fodder twice: 16 hours are left.
        Checks.are(44, "from now on", new long[] {y.forgot(1, 0), y.forgot(0, 0)}, 8, 8);
        // A calf's calf learns a going later.
        GrievingCamels z = Checks.in("place 0;place 0;road 0 1 1;camel 0;camel 0;camel 0;calf 1 0;calf 2 1;hurt 0 1 8;");
        z.route(2, 1);
        Checks.are(43, "one behind the other", new long[] {z.learnt(1, 0), z.learnt(1, 1), z.learnt(1, 2)}, 1, 1, 2);
    }

    private static void lightening() {
        GrievingCamels x = Checks.in(TWO + "law sum;");
        Checks.state(49, "light without a journey", () -> x.light(0));
        Checks.argument(49, "light(10000) without a journey", () -> x.light(10000));
        x.route(2, 1);
        Checks.are(49, "light", new long[] {x.light(9999), x.light(11), x.light(10), x.light(8), x.light(6), x.light(5),
            x.light(3), x.light(2), x.light(1), x.light(0)}, 0, 0, 1, 1, 1, 3, 3, 7, 7, -1);
        Checks.argument(49, "light(-1)", () -> x.light(-1));
        x.string(2, 21);
        Checks.are(49, "of the string alone", new long[] {x.light(6), x.light(5), x.light(4), x.light(1)}, 0, 2, 2, 6);
        GrievingCamels z = Checks.in("place 0;place 0;road 0 1 1;camel 0;camel 0;camel 0;hurt 0 1 2;hurt 1 1 2;"
            + "hurt 2 1 4;law sum;");
        z.route(2, 1);
        Checks.are(49, "the fewest, not the least bits", new long[] {z.light(5), z.light(4), z.light(3)}, 4, 5, 5);
        GrievingCamels y = Checks.in("place 0;place 0;road 0 1 1;camel 0;camel 0;camel 0;hurt 2 1 3;hurt 1 1 3;law sum;");
        y.route(2, 1);
        y.string(3, 210);
        Checks.is(49, "the least bits", y.light(4), 2);
    }

    private static void images() {
        GrievingCamels x = Checks.in(TWO + "law sum;");
        Checks.is(51, "restore of nothing", x.restore(), -1);
        x.route(2, 1);
        x.go();
        x.lay(1, 2);
        x.lay(3, 4);
        x.string(2, 20);
        Checks.is(50, "image", x.image(), 1);
        x.hurt(0, 0, 4);
        x.soothe(1, 0);
        x.clear();
        x.lay(2, 0);
        x.route(3, 101);
        x.string(3, 210);
        x.undo();
        x.hurt(0, 1, 6);
        x.go();
        x.undo();
        Checks.is(50, "image", x.image(), 2);
        Checks.is(50, "image", x.image(), 3);
        Checks.is(50, "a fourth", x.image(), -1);
        Checks.is(53, "images", x.count(0), 3);
        Checks.is(51, "restore", x.restore(), 2);
        Checks.is(51, "restore", x.restore(), 1);
        Checks.are(51, "the later one", new long[] {x.told(2), x.told(3), x.told(4), x.told(5), x.explain(1)},
                3, 3, 1, 0, 0);
        Checks.plan(x, "wait 3;");
        Checks.feed(x, "place 0;");
        Checks.argument(51, "a refusal", () -> x.told(9));
        Checks.is(51, "restore", x.restore(), 0);
        Checks.are(51, "the first one", new long[] {x.told(2), x.told(3), x.told(4), x.told(5), x.row(0), x.row(1),
            x.at(0), x.at(1), x.grief(0, 0, 0), x.grief(0, 0, 1), x.grief(1, 0, 0), x.explain(1)},
                2, 2, 2, 1, 2, 0, 0, 1, 0, 0, 5, 2 * 36 + 2 * 6);
        Checks.are(51, "what no image keeps", new long[] {x.run(0, 0), x.count(1), x.status(2), x.count(0)}, 3, 20, 1, 0);
        x.hurt(0, 2, 3);
        Checks.is(51, "what can be undone", x.undo(), 0);
        Checks.are(51, "as it was then", new long[] {x.grief(0, 1, 0), x.grief(0, 2, 0), x.grief(1, 0, 0)}, 0, 0, 5);
        Checks.is(51, "restore of nothing then", x.restore(), -1);
        Checks.are(53, "count", new long[] {x.count(0), x.count(1), x.count(2), x.count(3), x.count(-1), x.count(MIN)},
                0, 20, 0, -1, -1, -1);
    }

    private static void refusals() {
        GrievingCamels x = Checks.in(TWO);
        Checks.index(52, "place(2)", () -> x.place(2));
        Checks.element(52, "camel(3, 0)", () -> x.camel(3, 0));
        Checks.element(52, "camel(3, 9)", () -> x.camel(3, 9));
        Checks.argument(52, "told(9)", () -> x.told(9));
        Checks.argument(52, "land(-1)", () -> x.land(-1));
        Checks.argument(52, "explain(9)", () -> x.explain(9));
        for (int i = 0; i < 4; i++) {
            Checks.state(52, "go", x::go);
        }
        Checks.are(52, "status", new long[] {x.status(0), x.status(1), x.status(2), x.status(3), x.status(4),
            x.status(-1)}, 1, 2, 3, 4, -1, -1);
        x.image();
        Checks.index(52, "halt(9)", () -> x.halt(9));
        x.restore();
        Checks.is(52, "no image keeps it", x.status(0), 2);
        Checks.land(x, "place 0;");
        Checks.are(52, "nor does a land", new long[] {x.status(0), x.status(1), x.status(2), x.status(3)}, 2, 2, 3, 4);
    }
}
