/**
 * The sentences of the document that name an edge of JOURNEYS and GOINGS (promises 17 to 23, 33 to 35,
 * 43 to 45 and 48, and the terms ahead of them): each with a test at the edge, and one on either side of it.
 */
public final class JourneyEdgesTest {
    private static final int MIN = Integer.MIN_VALUE;
    private static final int MAX = Integer.MAX_VALUE;

    /** Roads of 4, 3, 2 hours and 9 past place 1; no camel has any grief. */
    private static final String FOUR = "place 0;place 0;place 0;place 0;road 0 1 4;road 1 2 3;road 2 3 2;road 0 2 9;"
        + "camel 0;camel 0;camel 0;";

    public static void main(String[] args) {
        twoToTwelvePlaces();
        digitsOfTheJourney();
        joinedByRoads();
        whichPlaceOfIt();
        hoursOfIt();
        haltsOnComing();
        whoseGriefIsTheMost();
        theLongestHalt();
        twentyFourGoings();
        latestGoingNotUndone();
        undoOfGriefsAndDepths();
        withoutAJourney();
        noLaterThanTheString();
        hoursLate();
        drawsBelowQ();
        drawsByHand();
        oneToSixtySeeds();
        seedsThatWrap();
        learntBehind1To24();
        learntBehindNoGoing();
        forgotten();
        soonWithin24();
        hoursOfSoon();
        Checks.end("JourneyEdgesTest");
    }

    /** "PLACES one behind the other (2 to 12)" */
    private static void twoToTwelvePlaces() {
        GrievingCamels x = Checks.in(FOUR);
        for (int many : new int[] {1, 0, -1, 13, 14, MIN, MAX}) {
            Checks.argument(17, many + " places", () -> x.route(many, 10));
        }
        Checks.are(17, "there is none", new long[] {x.told(3), x.status(2)}, 0, 7);
        Checks.are(17, "2 places", new long[] {x.route(2, 1), x.told(3)}, 4, 2);
        Checks.are(17, "3 places", new long[] {x.route(3, 12), x.told(3)}, 7, 3);
        Checks.are(17, "11 places", new long[] {x.route(11, 10101010101L), x.told(3)}, 40, 11);
        Checks.are(17, "12 places", new long[] {x.route(12, 101010101012L), x.told(3)}, 43, 12);
        Checks.are(18, "the last ones", new long[] {x.at(10), x.at(11), x.at(12)}, 1, 2, -1);
        Checks.argument(17, "13 places, with one of 12", () -> x.route(13, 101010101012L));
        Checks.is(17, "it stays", x.told(3), 12);
    }

    /** "as digits to the base 10"; "-1: a PLACE is none" */
    private static void digitsOfTheJourney() {
        GrievingCamels x = Checks.in(FOUR);
        Checks.is(17, "a journey", x.route(3, 12), 7);
        long[][] none = {{2, 4}, {2, 34}, {2, 43}, {3, 124}, {3, 412}, {2, 9}, {2, 101}, {2, 112}, {2, 1001}, {3, 1012},
            {3, 10012}, {2, -1}, {2, -12}, {2, -10}, {2, Long.MIN_VALUE}, {12, Long.MAX_VALUE}, {12, 1101010101012L},
            {2, (1L << 32) + 1}, {2, 1L << 32}, {3, (1L << 32) + 12}, {11, 101010101012L}};
        for (long[] each : none) {
            Checks.is(17, each[1] + " of " + each[0], x.route((int) each[0], each[1]), -1);
            Checks.are(17, "it stays", new long[] {x.told(3), x.at(0), x.at(1), x.at(2)}, 3, 0, 1, 2);
        }
        GrievingCamels ten = Checks.in("place 0;".repeat(10) + "road 9 8 1;road 9 0 2;");
        Checks.are(17, "of ten places", new long[] {ten.route(2, 98), ten.route(2, 89), ten.route(2, 9), ten.route(2, 90),
            ten.route(3, 890), ten.route(2, 88)}, 1, 1, 2, 2, 3, -1);
        GrievingCamels nowhere = new GrievingCamels();
        Checks.are(17, "no places", new long[] {nowhere.route(2, 0), nowhere.route(2, 1), nowhere.told(3)}, -1, -1, 0);
    }

    /** "each joined with the next one by a road"; "or two are not joined (it stays)" */
    private static void joinedByRoads() {
        GrievingCamels x = Checks.in(FOUR);
        Checks.is(17, "a journey", x.route(2, 23), 2);
        long[][] none = {{2, 3}, {2, 30}, {2, 13}, {2, 0}, {2, 11}, {2, 33}, {3, 122}, {3, 112}, {3, 13}, {3, 31},
            {4, 1230}, {4, 3012}, {4, 103}};
        for (long[] each : none) {
            Checks.is(17, each[1] + " of " + each[0], x.route((int) each[0], each[1]), -1);
            Checks.are(17, "it stays", new long[] {x.told(3), x.at(0), x.at(1), x.hours(1)}, 2, 2, 3, 2);
        }
        long[][] joined = {{2, 1, 4}, {2, 10, 4}, {2, 2, 9}, {2, 20, 9}, {4, 123, 9}, {4, 3210, 9}, {3, 23, 11},
            {3, 10, 8}, {4, 2012, 16}};
        for (long[] each : joined) {
            Checks.is(17, each[1] + " of " + each[0], x.route((int) each[0], each[1]), each[2]);
            Checks.is(17, "it is told", x.told(3), each[0]);
        }
        GrievingCamels y = Checks.in("place 0;place 0;road 0 1 24;");
        Checks.is(17, "eleven roads of 24", y.route(12, 10101010101L), 264);
    }

    /** 18: "NONE: none such." */
    private static void whichPlaceOfIt() {
        GrievingCamels x = Checks.in(FOUR);
        Checks.are(18, "no journey", new long[] {x.at(0), x.at(-1), x.at(1)}, -1, -1, -1);
        x.route(4, 3210);
        Checks.are(18, "places", new long[] {x.at(-1), x.at(0), x.at(1), x.at(2), x.at(3), x.at(4), x.at(MIN), x.at(MAX)},
                -1, 3, 2, 1, 0, -1, -1, -1);
        x.route(2, 1);
        Checks.are(18, "a shorter one", new long[] {x.at(0), x.at(1), x.at(2)}, 0, 1, -1);
    }

    /** 19: "0 all hours, 1 those of roads, 2 of HALTS" */
    private static void hoursOfIt() {
        GrievingCamels x = Checks.in(FOUR + "law sum;");
        x.route(4, 123);
        Checks.are(19, "no grief", new long[] {x.hours(0), x.hours(1), x.hours(2)}, 9, 9, 0);
        x.hurt(0, 0, 5);
        Checks.is(19, "grief in the first place", x.hours(0), 9);
        x.hurt(3, 0, 5);
        x.hurt(1, 2, 1);
        Checks.are(19, "grief", new long[] {x.hours(0), x.hours(1), x.hours(2)}, 15, 9, 6);
        Checks.argument(19, "what -1", () -> x.hours(-1));
        Checks.argument(19, "what 3", () -> x.hours(3));
        GrievingCamels y = Checks.in("place 0;place 0;road 0 1 24;camel 0;hurt 0 0 1;hurt 0 1 1;law 99;");
        y.route(12, 10101010101L);
        Checks.are(19, "the most there are", new long[] {y.hours(0), y.hours(1), y.hours(2), y.go()}, 1353, 264, 1089, 1353);
    }

    /** 20: "NONE: none such; 0 in the first" */
    private static void haltsOnComing() {
        GrievingCamels x = Checks.in("place 1;place 0;road 0 1 1;camel 0;hurt 0 0 3;hurt 0 1 2;");
        x.route(7, 101010);
        Checks.are(20, "halts", new long[] {x.stop(-1), x.stop(0), x.stop(1), x.stop(2), x.stop(3), x.stop(4), x.stop(5),
            x.stop(6), x.stop(7), x.stop(MAX), x.stop(MIN)}, -1, 0, 2, 3, 1, 2, 0, 1, -1, -1, -1);
        Checks.are(20, "and all is as it was", new long[] {x.grief(0, 0, 0), x.grief(1, 0, 0)}, 3, 2);
        x.route(12, 101010101010L);
        Checks.is(17, "not by this one", x.told(3), 12);
        Checks.are(20, "the last of twelve", new long[] {x.at(11), x.stop(11), x.stop(12)}, 0, 0, -1);
        GrievingCamels y = Checks.in("place 0;place 0;road 0 1 1;camel 0;hurt 0 0 9;hurt 0 1 7;");
        y.route(12, 101010101010L);
        Checks.are(20, "the last one's halt", new long[] {y.at(11), y.stop(10), y.stop(11), y.stop(12)}, 0, 7, 9, -1);
    }

    /** 21: "of these the first of the row; NONE: none has any, or no such PLACE, or it is the first" */
    private static void whoseGriefIsTheMost() {
        GrievingCamels x = Checks.in(FOUR + "hurt 0 0 9;hurt 0 1 4;hurt 1 1 5;hurt 2 1 5;hurt 2 2 1;");
        x.route(4, 123);
        Checks.are(21, "whose", new long[] {x.whose(-1), x.whose(0), x.whose(1), x.whose(2), x.whose(3), x.whose(4),
            x.whose(MAX), x.whose(MIN)}, -1, -1, 1, 2, -1, -1, -1, -1);
        x.string(3, 21);
        Checks.is(21, "the first of the row", x.whose(1), 2);
        x.hurt(1, 1, 1);
        Checks.is(21, "one more", x.whose(1), 1);
        x.string(1, 0);
        Checks.are(21, "of the row alone", new long[] {x.whose(1), x.whose(2)}, 0, -1);
        x.string(0, 0);
        Checks.is(21, "of an empty row", x.whose(1), -1);
        GrievingCamels y = Checks.in("place 1;place 3;road 0 1 1;camel 0;camel 0;calf 1 0;hurt 0 0 1;hurt 0 1 2;");
        y.route(5, 10101);
        // 1 0 1 0 1: the fodder takes one in place 0, and one in place 1 each time.
        Checks.are(21, "on coming", new long[] {y.whose(1), y.whose(2), y.whose(3), y.whose(4)}, 0, 0, -1, -1);
        y.hurt(1, 0, 1);
        Checks.are(21, "on coming", new long[] {y.whose(1), y.whose(2), y.whose(3), y.whose(4)}, 0, 0, -1, 0);
        y.route(4, 1010);
        Checks.are(21, "no such place behind a longer one", new long[] {y.whose(4), y.stop(4), y.at(4)}, -1, -1, -1);
        y.route(5, 10101);
        Checks.are(21, "in a mirage, too", new long[] {y.stop(1), y.stop(2)}, 1, 0);
        y.hurt(1, 0, 1);
        y.string(2, 10);
        // The calf learns 1 of 3 in the mirage, the fodder takes it, and it learns 1 of 2 again.
        Checks.are(21, "of a calf and its mother", new long[] {y.whose(2), y.whose(3), y.whose(4)}, 0, -1, 0);
    }

    /** "HEAVY: where in the JOURNEY (1 on) the longest HALT is, of these the first." */
    private static void theLongestHalt() {
        GrievingCamels x = Checks.in(FOUR);
        x.route(4, 123);
        Checks.is(48, "none halts", x.heavy(), 1);
        x.hurt(0, 0, 20);
        Checks.is(48, "not in the first place", x.heavy(), 1);
        x.hurt(3, 0, 1);
        Checks.is(48, "in the last one", x.heavy(), 3);
        x.hurt(2, 1, 1);
        Checks.is(48, "of two the first", x.heavy(), 2);
        x.hurt(1, 2, 1);
        Checks.is(48, "of three the first", x.heavy(), 1);
        x.hurt(2, 1, 1);
        Checks.is(48, "one more", x.heavy(), 2);
        x.hurt(3, 1, 3);
        Checks.is(48, "the last one again", x.heavy(), 3);
        x.route(2, 32);
        Checks.is(48, "two places", x.heavy(), 1);
        x.route(12, 101010101012L);
        Checks.is(48, "the first place once more, of those the first", x.heavy(), 1);
        x.soothe(0, 0);
        Checks.is(48, "the last of twelve", x.heavy(), 11);
    }

    /** "GOING: hours (24 times at most; -1: no more)." */
    private static void twentyFourGoings() {
        GrievingCamels x = Checks.in("place 0;place 2;road 0 1 1;camel 0;hurt 0 1 20;");
        x.soothe(1, 0);
        x.hurt(1, 0, 1);
        x.route(2, 1);
        for (int i = 1; i <= 24; i++) {
            Checks.is(22, "going " + i, x.go(), 1 + Math.min(i, 20));
            Checks.are(22, "of them", new long[] {x.told(5), x.count(2)}, i, i);
        }
        x.soothe(1, 0);
        Checks.are(22, "no more", new long[] {x.go(), x.go(), x.told(5), x.count(2)}, -1, -1, 24, 24);
        Checks.are(22, "it does nothing", new long[] {x.grief(1, 0, 0), x.hours(0)}, 0, 1);
        Checks.are(23, "one undone", new long[] {x.undo(), x.grief(1, 0, 0)}, 23, 20);
        Checks.are(22, "a 24th again, no 25th", new long[] {x.go(), x.told(5), x.go(), x.told(5)}, 21, 24, -1, 24);
        Checks.is(23, "two undone", x.undo() + x.undo(), 45);
        Checks.are(22, "two again", new long[] {x.go(), x.go(), x.go()}, 21, 21, -1);
        x.string(0, 0);
        x.route(2, 10);
        Checks.is(22, "by no string, on no journey", x.go(), -1);
    }

    /** "the latest GOING that was not undone ..: how many there are yet; -1: there is none" */
    private static void latestGoingNotUndone() {
        GrievingCamels x = Checks.in("place 0;place 1;road 0 1 1;camel 0;hurt 0 1 9;");
        Checks.is(23, "none", x.undo(), -1);
        x.route(2, 1);
        Checks.is(23, "a journey is no going", x.undo(), -1);
        x.go();
        x.go();
        x.go();
        Checks.are(23, "three, one undone", new long[] {x.undo(), x.told(5), x.count(2), x.grief(1, 0, 0)}, 2, 2, 2, 7);
        x.go();
        x.go();
        Checks.are(23, "four", new long[] {x.told(5), x.grief(1, 0, 0)}, 4, 5);
        Checks.are(23, "one by one", new long[] {x.undo(), x.grief(1, 0, 0), x.undo(), x.grief(1, 0, 0), x.undo(),
            x.grief(1, 0, 0), x.undo(), x.grief(1, 0, 0)}, 3, 6, 2, 7, 1, 8, 0, 9);
        Checks.are(23, "none is left", new long[] {x.undo(), x.undo(), x.told(5), x.grief(1, 0, 0)}, -1, -1, 0, 9);
        Checks.is(22, "once more", x.go(), 10);
    }

    /** "All is as ahead of the latest GOING .. (GRIEFS, DEPTHS)": the STRING, the JOURNEY, lines stay. */
    private static void undoOfGriefsAndDepths() {
        GrievingCamels x = Checks.in("place 0;".repeat(9) + "place 0;road 0 9 1;" + "camel 0;".repeat(8) + "calf 7 0;"
            + "hurt 0 9 9;hurt 7 0 2;hurt 0 0 3;");
        x.route(2, 9);
        x.go();
        Checks.are(22, "learnt", new long[] {x.grief(9, 7, 0), x.grief(9, 7, 1)}, 4, 4);
        x.hurt(0, 0, 4);
        x.hurt(9, 7, 4);
        x.soothe(0, 7);
        x.lay(1, 1);
        x.string(1, 5);
        x.route(2, 90);
        x.image();
        Checks.is(23, "undo", x.undo(), 0);
        Checks.are(23, "griefs and depths", new long[] {x.grief(9, 7, 0), x.grief(9, 7, 1), x.grief(0, 0, 0),
            x.grief(0, 0, 1), x.grief(0, 7, 0), x.grief(0, 7, 1), x.grief(9, 0, 0)}, 0, 0, 3, 3, 2, 2, 9);
        Checks.are(23, "what stays", new long[] {x.told(2), x.row(0), x.told(3), x.at(0), x.told(4), x.count(0)},
                1, 5, 2, 9, 1, 1);
        x.hurt(0, 0, 4);
        Checks.are(23, "without a going no hurt is undone", new long[] {x.undo(), x.grief(0, 0, 0)}, -1, 7);
        // Ahead of this going GRIEF and DEPTH are not alike.
        x.soothe(0, 0);
        x.hurt(0, 0, 2);
        x.soothe(0, 7);
        x.go();
        x.hurt(0, 0, 9);
        x.hurt(0, 7, 9);
        Checks.are(23, "each as it was", new long[] {x.undo(), x.grief(0, 0, 0), x.grief(0, 0, 1), x.grief(0, 7, 0),
            x.grief(0, 7, 1)}, 0, 2, 9, 0, 2);
    }

    /** "IllegalStateException: there is no JOURNEY (so below)." */
    private static void withoutAJourney() {
        GrievingCamels x = Checks.in(FOUR);
        x.route(2, 3);
        Checks.state(19, "hours", () -> x.hours(0));
        Checks.state(20, "stop", () -> x.stop(-1));
        Checks.state(21, "whose", () -> x.whose(9));
        Checks.state(22, "go", x::go);
        Checks.state(25, "roped", () -> x.roped(1, 0));
        Checks.state(26, "parted", () -> x.parted(0));
        Checks.state(27, "sell", () -> x.sell(0));
        Checks.state(28, "heal", () -> x.heal(0));
        Checks.state(33, "race", () -> x.race(0));
        Checks.state(34, "doubt", () -> x.doubt(0, 0));
        Checks.state(35, "span", () -> x.span(0, 0, 1, 0));
        Checks.state(43, "learnt", () -> x.learnt(0, 0));
        Checks.state(44, "forgot", () -> x.forgot(0, 0));
        Checks.state(45, "soon", () -> x.soon(0));
        Checks.state(48, "heavy", x::heavy);
        Checks.state(49, "light", () -> x.light(0));
        Checks.are(52, "refused", new long[] {x.status(0), x.status(1), x.status(2), x.status(3)}, 0, 0, 0, 16);
        x.string(0, 0);
        Checks.state(26, "parted, an empty row", () -> x.parted(0));
        Checks.state(27, "sell, an empty row", () -> x.sell(0));
        x.route(2, 1);
        Checks.are(19, "with one", new long[] {x.hours(0), x.stop(0), x.whose(0), x.go(), x.roped(1, 0), x.parted(0),
            x.sell(0), x.heal(0), x.race(0), x.doubt(0, 0), x.span(0, 0, 1, 0), x.learnt(0, 0), x.forgot(0, 0),
            x.soon(4), x.heavy(), x.light(4)}, 4, 0, -1, 4, 4, 0, -1, 0, 1, 4, 4, -1, 1, 1, 1, 0);
    }

    /** "where in it (1 on) they first come to a PLACE no later than the STRING leaves it (behind its HALT)" */
    private static void noLaterThanTheString() {
        GrievingCamels x = Checks.in(FOUR + "hurt 0 1 3;hurt 0 2 4;hurt 0 3 5;");
        x.route(4, 123);
        int[] late = {0, 1, 2, 3, 4, 6, 7, 8, 11, 12, 13, 99};
        int[] due = {1, 1, 1, 1, 2, 2, 2, 3, 3, 3, -1, -1};
        for (int i = 0; i < late.length; i++) {
            Checks.is(33, "race, late by " + late[i], x.race(late[i]), due[i]);
        }
        x.soothe(1, 0);
        x.soothe(2, 0);
        Checks.are(33, "one halt in the last place", new long[] {x.race(0), x.race(1), x.race(5), x.race(6)}, 1, 3, 3, -1);
        x.route(3, 12);
        Checks.are(33, "a shorter journey behind a longer one", new long[] {x.race(0), x.race(1)}, 1, -1);
        x.route(4, 123);
        x.soothe(3, 0);
        Checks.are(33, "no halts", new long[] {x.race(0), x.race(1)}, 1, -1);
        x.hurt(0, 0, 20);
        Checks.is(33, "no halt in the first place", x.race(1), -1);
    }

    /** "so many hours late (0 to 99)" */
    private static void hoursLate() {
        GrievingCamels x = Checks.in("place 0;place 0;road 0 1 1;camel 0;hurt 0 1 1;law 98;");
        x.route(2, 1);
        Checks.are(33, "edges", new long[] {x.race(0), x.race(1), x.race(98), x.race(99)}, 1, 1, 1, -1);
        for (int late : new int[] {-1, 100, MIN, MAX}) {
            Checks.argument(33, "late by " + late, () -> x.race(late));
        }
        GrievingCamels y = Checks.in("place 0;place 0;road 0 1 1;camel 0;hurt 0 1 1;law 99;");
        y.route(2, 1);
        Checks.is(33, "a halt of 99", y.race(99), 1);
    }

    private static int draws(int seed, int q, int roads) {
        java.math.BigInteger s = java.math.BigInteger.valueOf(seed);
        int late = 0;
        for (int i = 0; i < roads; i++) {
            s = s.multiply(java.math.BigInteger.valueOf(1103515245)).add(java.math.BigInteger.valueOf(12345));
            int draw = 0;
            for (int bit = 0; bit < 3; bit++) {
                draw += s.testBit(16 + bit) ? 1 << bit : 0;
            }
            late += draw < q ? 1 : 0;
        }
        return late;
    }

    /** "a DRAW of 8 below Q (0 to 8)" */
    private static void drawsBelowQ() {
        GrievingCamels x = Checks.in(FOUR);
        x.route(4, 123);
        for (int q : new int[] {-1, 9, MIN, MAX}) {
            Checks.argument(34, "q of " + q, () -> x.doubt(1, q));
            Checks.argument(35, "q of " + q, () -> x.span(1, q, 1, 0));
        }
        for (int seed : new int[] {0, 1, -1, 7, MAX, MIN, 65536, 1 << 19}) {
            for (int q = 0; q <= 8; q++) {
                Checks.is(34, "doubt by " + seed + ", " + q, x.doubt(seed, q), 9 + draws(seed, q, 3));
            }
        }
        x.route(12, 101010101012L);
        Checks.are(34, "eleven roads", new long[] {x.doubt(77, 0), x.doubt(77, 4), x.doubt(77, 8)},
                43, 43 + draws(77, 4, 11), 54);
    }

    /** Seed 0 becomes 12345: a draw of 0; that becomes 3554416254 by 32 bits: a draw of 4. */
    private static void drawsByHand() {
        GrievingCamels x = Checks.in(FOUR);
        x.route(2, 1);
        Checks.are(34, "0 is below 1, not below 0", new long[] {x.doubt(0, 0), x.doubt(0, 1), x.doubt(0, 8)}, 4, 5, 5);
        x.route(3, 12);
        Checks.are(34, "4 is below 5, not below 4", new long[] {x.doubt(0, 1), x.doubt(0, 4), x.doubt(0, 5),
            x.doubt(0, 8)}, 8, 8, 9, 9);
        x.hurt(1, 0, 3);
        Checks.is(34, "with a halt", x.doubt(0, 1), 11);
    }

    /** "Of so many SEEDS (1 to 60; seed, seed and 1, ..)" */
    private static void oneToSixtySeeds() {
        GrievingCamels x = Checks.in(FOUR + "hurt 0 1 2;");
        x.route(4, 123);
        for (int many : new int[] {0, -1, 61, MIN, MAX}) {
            Checks.argument(35, many + " seeds", () -> x.span(3, 4, many, 0));
        }
        for (int many : new int[] {1, 2, 59, 60}) {
            for (int q : new int[] {0, 3, 8}) {
                int least = MAX;
                int greatest = 0;
                int all = 0;
                for (int i = 0; i < many; i++) {
                    int hours = 11 + draws(3 + i, q, 3);
                    least = Math.min(least, hours);
                    greatest = Math.max(greatest, hours);
                    all += hours;
                }
                Checks.are(35, many + " seeds by " + q, new long[] {x.span(3, q, many, 0), x.span(3, q, many, 1),
                    x.span(3, q, many, 2)}, least, greatest, all);
            }
        }
        Checks.argument(35, "what -1", () -> x.span(3, 4, 1, -1));
        Checks.argument(35, "what 3", () -> x.span(3, 4, 1, 3));
        GrievingCamels y = Checks.in("place 0;place 0;road 0 1 24;camel 0;hurt 0 0 1;hurt 0 1 1;law 99;");
        y.route(12, 10101010101L);
        Checks.are(35, "the most there are", new long[] {y.span(0, 8, 60, 0), y.span(0, 8, 60, 1), y.span(0, 8, 60, 2)},
                1364, 1364, 81840);
    }

    /** "(32 bits)", "(it wraps)": behind the greatest seed comes the least. */
    private static void seedsThatWrap() {
        GrievingCamels x = Checks.in(FOUR);
        x.route(4, 123);
        long all = 0;
        for (int i = 0; i < 10; i++) {
            all += x.doubt(MAX - 4 + i, 4);
        }
        Checks.is(35, "over the greatest", x.span(MAX - 4, 4, 10, 2), all);
        Checks.is(35, "the greatest alone", x.span(MAX, 4, 1, 2), 9 + draws(MAX, 4, 3));
        Checks.is(35, "and the least", x.span(MAX, 4, 2, 2), 18 + draws(MAX, 4, 3) + draws(MIN, 4, 3));
        Checks.is(35, "-1 and 0", x.span(-1, 5, 2, 2), 18 + draws(-1, 5, 3) + draws(0, 5, 3));
    }

    /**
     * Each camel is the calf of the one ahead; camel 0's grief is 4 and grows by one a going. Camel 4
     * learns with the 16th going and grows then, too; camel 6 learns with the 20th, camel 7 with the 25th.
     */
    private static GrievingCamels slowLearners(String law) {
        StringBuilder land = new StringBuilder("place 0;place 0;place 2;road 0 1 1;road 1 2 1;" + "camel 0;".repeat(8));
        for (int c = 1; c < 8; c++) {
            land.append("calf ").append(c).append(" ").append(c - 1).append(";");
        }
        GrievingCamels x = Checks.in(land + "hurt 0 1 20;hurt 4 1 20;" + law);
        x.soothe(1, 0);
        x.hurt(1, 0, 4);
        x.soothe(1, 4);
        x.route(3, 12);
        return x;
    }

    /** "behind how many GOINGS .. (1 to 24 ..)"; "NONE: not within 24." */
    private static void learntBehind1To24() {
        GrievingCamels x = slowLearners("");
        Checks.are(43, "learnt", new long[] {x.learnt(1, 0), x.learnt(1, 1), x.learnt(1, 2), x.learnt(1, 3),
            x.learnt(1, 4), x.learnt(1, 5), x.learnt(1, 6), x.learnt(1, 7)}, 1, 1, 2, 7, 16, 17, 20, -1);
        x.go();
        Checks.are(43, "a going later", new long[] {x.learnt(1, 6), x.learnt(1, 7)}, 19, 24);
        x.go();
        Checks.are(43, "two goings later", new long[] {x.learnt(1, 6), x.learnt(1, 7)}, 18, 23);
        for (int i = 2; i < 24; i++) {
            x.go();
        }
        Checks.are(43, "behind 24 of them", new long[] {x.go(), x.grief(1, 7, 0), x.learnt(1, 7)}, -1, 0, 1);
        x.undo();
        Checks.is(43, "behind 23 of them", x.learnt(1, 7), 2);
    }

    private static void learntBehindNoGoing() {
        GrievingCamels x = Checks.in("place 0;place 1;road 0 1 1;camel 0;camel 0;hurt 0 1 1;hurt 1 1 2;");
        x.route(2, 1);
        Checks.are(43, "what it has now does not count, but behind a going", new long[] {x.learnt(1, 0), x.learnt(1, 1),
            x.learnt(0, 0)}, -1, 1, -1);
        Checks.are(44, "nor what it has not", new long[] {x.forgot(1, 0), x.forgot(1, 1), x.forgot(0, 0)}, 1, 2, 1);
        Checks.are(43, "nothing is gone", new long[] {x.told(5), x.grief(1, 1, 0)}, 0, 2);
        Checks.index(43, "place -1", () -> x.learnt(-1, 0));
        Checks.index(43, "place 2", () -> x.learnt(2, 0));
        Checks.element(43, "camel -1", () -> x.learnt(0, -1));
        Checks.element(43, "camel 2", () -> x.learnt(0, 2));
        Checks.index(44, "place -1", () -> x.forgot(-1, 0));
        Checks.index(44, "place 2", () -> x.forgot(2, 0));
        Checks.element(44, "camel -1", () -> x.forgot(0, -1));
        Checks.element(44, "camel 2", () -> x.forgot(0, 2));
    }

    /** "FORGOT: has none there"; NONE where it is never forgotten. */
    private static void forgotten() {
        GrievingCamels x = Checks.in("place 0;place 1;road 0 1 1;camel 0;camel 0;camel 0;hurt 0 1 20;hurt 1 1 19;hurt 2 1 1;"
            + "hurt 0 0 20;");
        x.route(2, 1);
        Checks.are(44, "by one a going", new long[] {x.forgot(1, 0), x.forgot(1, 1), x.forgot(1, 2), x.forgot(0, 0)},
                20, 19, 1, 20);
        x.string(2, 12);
        Checks.are(44, "not of the string", new long[] {x.forgot(1, 0), x.forgot(1, 1)}, -1, 19);
        x.string(3, 12);
        for (int i = 0; i < 24; i++) {
            x.go();
        }
        Checks.are(44, "forgotten already", new long[] {x.forgot(1, 0), x.learnt(1, 0), x.grief(1, 0, 0)}, 1, -1, 0);
        // A fodder and a salt on the way: 2 is 1, then 2 again; 1 is forgotten.
        GrievingCamels y = Checks.in("place 0;place 1;place 2;road 0 1 1;road 1 2 1;camel 0;camel 0;hurt 0 0 2;hurt 1 0 1;");
        y.route(3, 12);
        Checks.are(44, "two stay two", new long[] {y.forgot(0, 0), y.forgot(0, 1)}, -1, 1);
    }

    /** "SOON: it takes no more than so many hours (that GOING itself)", 1 to 24. */
    private static void soonWithin24() {
        // With the law 99 less 10 for each that has any: all eight have with the 26th going.
        GrievingCamels x = slowLearners("law 99-many*10;");
        Checks.are(45, "all eight", new long[] {x.soon(21), x.soon(22), x.soon(30)}, -1, -1, -1);
        // Camel 6 has learnt with the 20th going, and halts with the 21st.
        Checks.are(45, "seven", new long[] {x.soon(31), x.soon(32), x.soon(40), x.soon(41)}, 21, 21, 21, 18);
        x.go();
        Checks.is(45, "with the 25th", x.soon(21), -1);
        x.go();
        Checks.are(45, "with the 24th", new long[] {x.soon(21), x.soon(20)}, 24, -1);
        x.go();
        Checks.are(45, "with the 23rd", new long[] {x.soon(21), x.soon(31)}, 23, 18);
        GrievingCamels y = Checks.in("place 0;place 1;road 0 1 1;camel 0;hurt 0 1 3;");
        y.route(2, 1);
        Checks.are(45, "that going itself", new long[] {y.soon(5), y.soon(4), y.soon(3), y.soon(2), y.soon(1), y.soon(0)},
                1, 1, 2, 3, 4, -1);
        Checks.are(45, "nothing is gone", new long[] {y.told(5), y.grief(1, 0, 0)}, 0, 3);
    }

    /** 45: "(hours 0 to 9,999)" */
    private static void hoursOfSoon() {
        GrievingCamels x = Checks.in(FOUR);
        x.route(2, 1);
        for (int hours : new int[] {-1, 10000, MIN, MAX}) {
            Checks.argument(45, "hours of " + hours, () -> x.soon(hours));
            Checks.argument(49, "hours of " + hours, () -> x.light(hours));
        }
        Checks.are(45, "edges", new long[] {x.soon(0), x.soon(1), x.soon(3), x.soon(4), x.soon(9998), x.soon(9999)},
                -1, -1, -1, 1, 1, 1);
        Checks.are(49, "edges", new long[] {x.light(0), x.light(1), x.light(3), x.light(4), x.light(9998), x.light(9999)},
                -1, -1, -1, 0, 0, 0);
    }
}
