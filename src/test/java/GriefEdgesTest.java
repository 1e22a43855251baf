/**
 * The sentences of the document that name an edge of GRIEF, DEPTH, HALT and the STRING (promises 9 to
 * 16 and 47, and the terms ahead of them): each with a test at the edge, and one on either side of it.
 */
public final class GriefEdgesTest {
    private static final int MIN = Integer.MIN_VALUE;
    private static final int MAX = Integer.MAX_VALUE;

    public static void main(String[] args) {
        zeroTo99();
        wrapsBy32Bits();
        noneHasAny();
        threeInAMirage();
        firstAndLastThatHaveAny();
        mostOfAll();
        valuesOfTheString();
        halfCut();
        onlyIfThatIsMore();
        motherInTheRow();
        asOnComing();
        learningGoesAhead();
        learningInEveryPlace();
        oneLessByFodder();
        oneMoreBySalt();
        notInTheFirstPlace();
        depthIs20AtMost();
        depthByLearning();
        hoursOfHurt();
        soothed();
        howManyInTheRow();
        digitsOfTheRow();
        eachOnce();
        rowsFromEndToEnd();
        whichBits();
        pairsThatQuarrel();
        Checks.end("GriefEdgesTest");
    }

    private static int haltBy(String law) {
        return Checks.in("place 0;camel 0;hurt 0 0 1;law " + law + ";").halt(0);
    }

    /** "below 0 is 0, above 99 is 99" */
    private static void zeroTo99() {
        String[] laws = {"1-3", "1-2", "1-1", "2-1", "97+1", "98+1", "99+1", "99+2", "0-99*99", "99*99"};
        int[] due = {0, 0, 0, 1, 98, 99, 99, 99, 0, 99};
        for (int i = 0; i < laws.length; i++) {
            Checks.is(14, "halt by " + laws[i], haltBy(laws[i]), due[i]);
        }
        // 16 is 20 less 4: only the end of all is cut, not what stands within.
        Checks.is(14, "cut at the end alone, below", haltBy("1-5+20"), 16);
        Checks.is(14, "cut at the end alone, above", haltBy("99+99-75-75"), 48);
        Checks.is(14, "no sum of more than 99", haltBy("99*2-99-1"), 98);
    }

    /** "wraps by 32 bits" */
    private static void wrapsBy32Bits() {
        String half = "2*64*64*64*64*64";
        Checks.is(14, "2 to the 31st, less 1", haltBy(half + "-1"), 99);
        Checks.is(14, "2 to the 31st", haltBy(half), 0);
        Checks.is(14, "2 to the 31st, and 1", haltBy(half + "+1"), 0);
        Checks.is(14, "2 to the 32nd, less 1", haltBy("2*" + half + "-1"), 0);
        Checks.is(14, "2 to the 32nd", haltBy("2*" + half), 0);
        Checks.is(14, "2 to the 32nd, and 5", haltBy("2*" + half + "+5"), 5);
        Checks.is(14, "less than nothing by 2 to the 31st", haltBy("0-" + half), 0);
        Checks.is(14, "and 1 less", haltBy("0-" + half + "-1"), 99);
        Checks.is(14, "and up again", haltBy("0-" + half + "-1+" + half + "+1+7"), 7);
        Checks.is(14, "2 to the 64th, and 3", haltBy("(2*" + half + ")*(2*" + half + ")+3"), 3);
    }

    /** "0, if no CAMEL has any" */
    private static void noneHasAny() {
        GrievingCamels x = Checks.in("place 0;place 0;camel 0;camel 0;law 7;");
        Checks.is(14, "none has any", x.halt(0), 0);
        x.hurt(1, 0, 20);
        Checks.is(14, "none has any here", x.halt(0), 0);
        x.hurt(0, 1, 1);
        Checks.is(14, "one has 1", x.halt(0), 7);
        x.hurt(0, 0, 1);
        Checks.is(14, "both have", x.halt(0), 7);
        x.string(1, 0);
        x.soothe(0, 0);
        Checks.is(14, "none of the string has any", x.halt(0), 0);
        x.string(0, 0);
        Checks.is(14, "an empty string", x.halt(1), 0);
        Checks.are(15, "values of an empty string", values(x, 1), 0, 0, 0, 0, 0);
        Checks.are(16, "no camels would", new long[] {x.would(0, 0), x.would(0, 1), x.would(0, 2), x.would(0, 3)},
                0, 0, 7, 7);
    }

    /** "0 in a mirage, if fewer than 3 have any" */
    private static void threeInAMirage() {
        GrievingCamels x = Checks.in("place 3;place 0;place 1;place 2;" + "camel 0;".repeat(5) + "law 10+many;");
        int[] due = {0, 0, 13, 14, 15};
        for (int c = 0; c < 5; c++) {
            x.hurt(0, c, 1);
            Checks.is(14, c + 1 + " in a mirage", x.halt(0), due[c]);
            Checks.is(16, c + 1 + " would", x.would(0, 31), due[c]);
        }
        Checks.are(16, "those that have any, of these", new long[] {x.would(0, 3), x.would(0, 7), x.would(0, 28),
            x.would(0, 24)}, 0, 13, 13, 0);
        x.soothe(0, 2);
        x.soothe(0, 4);
        Checks.are(16, "those without any do not count", new long[] {x.halt(0), x.would(0, 7), x.would(0, 11)}, 13, 0, 13);
        for (int place = 1; place < 4; place++) {
            x.hurt(place, 1, 1);
            Checks.is(14, "one in a place of kind " + x.place(place), x.halt(place), 11);
        }
    }

    /** "first, last: of the first, the last one in the row that has any (0: none has)" */
    private static void firstAndLastThatHaveAny() {
        GrievingCamels x = Checks.in("place 0;camel 0;camel 0;camel 0;camel 0;law first*10+last;");
        Checks.is(14, "none", x.halt(0), 0);
        x.hurt(0, 2, 3);
        Checks.is(14, "one alone", x.halt(0), 33);
        x.hurt(0, 1, 2);
        Checks.is(14, "two in the midst", x.halt(0), 23);
        x.hurt(0, 0, 1);
        x.hurt(0, 3, 4);
        Checks.is(14, "from end to end", x.halt(0), 14);
        x.string(4, 3021);
        Checks.is(14, "by the row", x.halt(0), 42);
        x.soothe(0, 1);
        x.soothe(0, 3);
        Checks.is(14, "the ends have none", x.halt(0), 13);
    }

    /** "most: the greatest; sum: all; many: how many have any" */
    private static void mostOfAll() {
        String land = "place 0;camel 0;camel 0;camel 0;camel 0;hurt 0 0 1;hurt 1 0 2;hurt 3 0 2;law ";
        String[] laws = {"most", "sum", "first", "last", "many", "most+sum*many-first*last"};
        int[] due = {2, 5, 1, 2, 3, 15};
        for (int i = 0; i < laws.length; i++) {
            Checks.is(14, laws[i], Checks.in(land + laws[i] + ";").halt(0), due[i]);
        }
        GrievingCamels x = Checks.in("place 0;" + "camel 0;".repeat(8) + "law sum-61;");
        for (int c = 0; c < 8; c++) {
            x.hurt(0, c, 20);
        }
        Checks.are(15, "eight of 20", values(x, 0), 20, 160, 20, 20, 8);
        Checks.is(14, "a sum of 160", x.halt(0), 99);
        x.hurt(0, 0, 20);
        x.soothe(0, 7);
        Checks.is(14, "a sum of 140", x.halt(0), 79);
    }

    private static long[] values(GrievingCamels x, int place) {
        return new long[] {x.value(place, 0), x.value(place, 1), x.value(place, 2), x.value(place, 3), x.value(place, 4)};
    }

    /** 15: "0 most, 1 sum, 2 first, 3 last, 4 many", in a mirage, too. */
    private static void valuesOfTheString() {
        GrievingCamels x = Checks.in("place 3;place 0;camel 0;camel 0;camel 0;hurt 0 0 4;hurt 2 0 6;law 1;");
        Checks.are(15, "values", values(x, 0), 6, 10, 4, 6, 2);
        Checks.are(15, "values where none has any", values(x, 1), 0, 0, 0, 0, 0);
        Checks.argument(15, "what -1", () -> x.value(0, -1));
        Checks.argument(15, "what 5", () -> x.value(0, 5));
        Checks.index(15, "place -1", () -> x.value(-1, 5));
        Checks.index(15, "place 2", () -> x.value(2, 0));
        x.string(2, 21);
        Checks.are(15, "values of two", values(x, 0), 6, 6, 6, 6, 1);
        x.string(3, 12);
        x.soothe(0, 2);
        Checks.are(15, "values by GRIEF, not by DEPTH", values(x, 0), 4, 4, 4, 4, 1);
    }

    private static final String CALF = "place 0;place 0;road 0 1 1;camel 0;camel 0;calf 1 0;";

    private static GrievingCamels gone(int mothers, int calfs) {
        GrievingCamels x = Checks.in(CALF);
        if (mothers > 0) {
            x.hurt(1, 0, mothers);
        }
        if (calfs > 0) {
            x.hurt(1, 1, calfs);
        }
        x.route(2, 1);
        x.go();
        return x;
    }

    /** "LEARN half (cut) of her GRIEF there" */
    private static void halfCut() {
        int[] mothers = {0, 1, 2, 3, 4, 5, 18, 19, 20};
        int[] due = {0, 0, 1, 1, 2, 2, 9, 9, 10};
        for (int i = 0; i < mothers.length; i++) {
            GrievingCamels x = gone(mothers[i], 0);
            Checks.are(22, "learnt by " + mothers[i], new long[] {x.grief(1, 1, 0), x.grief(1, 1, 1), x.grief(1, 0, 0),
                x.grief(0, 1, 0)}, due[i], due[i], mothers[i], 0);
        }
    }

    /** "if that is more than they have" */
    private static void onlyIfThatIsMore() {
        for (int calfs = 3; calfs <= 7; calfs++) {
            Checks.is(22, "half of 10, with " + calfs, gone(10, calfs).grief(1, 1, 0), Math.max(5, calfs));
            Checks.is(22, "half of 11, with " + calfs, gone(11, calfs).grief(1, 1, 0), Math.max(5, calfs));
        }
    }

    /** "CALVES of the row whose mother is in the row" */
    private static void motherInTheRow() {
        long[][] rows = {{2, 1}, {2, 10}, {1, 0}, {1, 1}, {0, 0}};
        int[] due = {4, 4, 0, 0, 0};
        for (int i = 0; i < rows.length; i++) {
            GrievingCamels x = Checks.in(CALF + "hurt 0 1 9;");
            x.string((int) rows[i][0], rows[i][1]);
            x.route(2, 1);
            x.go();
            Checks.are(22, "row " + rows[i][1] + " of " + rows[i][0], new long[] {x.grief(1, 1, 0), x.grief(1, 1, 1)},
                    due[i], due[i]);
        }
        // Who was of the row is not of it any more.
        GrievingCamels y = Checks.in(CALF + "hurt 0 1 9;");
        y.route(2, 1);
        y.string(2, 1);
        y.string(1, 0);
        y.go();
        Checks.are(22, "a calf that was of the row", new long[] {y.grief(1, 1, 0), y.halt(1)}, 0, 9);
        y.string(2, 10);
        y.string(1, 1);
        y.go();
        Checks.are(22, "a mother that was of the row", new long[] {y.grief(1, 1, 0), y.halt(1)}, 0, 0);
        // A mother learns nothing of her calf.
        Checks.is(22, "no mother learns", gone(0, 20).grief(1, 0, 0), 0);
    }

    /** "her GRIEF there (as on coming)": what she learns just now does not count, whoever is ahead. */
    private static void asOnComing() {
        String land = "place 0;place 0;road 0 1 1;camel 0;camel 0;camel 0;camel 0;calf 1 0;calf 2 1;calf 3 2;hurt 0 1 17;";
        for (long row : new long[] {123, 3210, 2031}) {
            GrievingCamels x = Checks.in(land);
            x.string(4, row);
            x.route(2, 1);
            long[][] due = {{17, 8, 0, 0}, {17, 8, 4, 0}, {17, 8, 4, 2}, {17, 8, 4, 2}};
            for (long[] each : due) {
                x.go();
                Checks.are(22, "griefs by " + row, griefs(x, 1), each);
            }
        }
        // Each is the other's mother.
        GrievingCamels y = Checks.in("place 0;place 0;road 0 1 1;camel 0;camel 0;calf 1 0;calf 0 1;hurt 0 1 13;hurt 1 1 2;");
        y.route(2, 1);
        y.go();
        Checks.are(22, "both as on coming", griefs(y, 1), 13, 6);
        // The halt is as on coming, too.
        GrievingCamels z = Checks.in(CALF + "hurt 0 1 8;law sum;");
        z.route(2, 1);
        Checks.are(22, "halts", new long[] {z.go(), z.go(), z.go()}, 9, 13, 13);
    }

    private static long[] griefs(GrievingCamels x, int place) {
        long[] all = new long[x.told(1)];
        for (int i = 0; i < all.length; i++) {
            all[i] = x.grief(place, i, 0);
        }
        return all;
    }

    /** "then by fodder ..; by salt ..": behind what is learnt. */
    private static void learningGoesAhead() {
        String land = "place 0;place K;road 0 1 1;camel 0;camel 0;calf 1 0;hurt 0 1 6;";
        GrievingCamels fodder = Checks.in(land.replace("K", "1"));
        fodder.route(2, 1);
        fodder.go();
        Checks.are(22, "learnt, then one less", new long[] {fodder.grief(1, 0, 0), fodder.grief(1, 1, 0),
            fodder.grief(1, 1, 1)}, 5, 2, 3);
        GrievingCamels salt = Checks.in(land.replace("K", "2") + "hurt 1 1 2;");
        salt.soothe(1, 0);
        salt.hurt(1, 0, 5);
        salt.route(2, 1);
        salt.hurt(1, 1, 3);
        salt.soothe(1, 1);
        salt.go();
        Checks.are(22, "learnt of what was on coming, then one more", new long[] {salt.grief(1, 0, 0),
            salt.grief(1, 1, 0), salt.grief(1, 1, 1)}, 6, 3, 5);
        GrievingCamels two = Checks.in("place 0;place 1;road 0 1 1;camel 0;camel 0;calf 1 0;hurt 0 1 2;");
        two.route(2, 1);
        two.go();
        Checks.are(22, "one is learnt, and forgotten", new long[] {two.grief(1, 0, 0), two.grief(1, 1, 0),
            two.grief(1, 1, 1)}, 1, 0, 1);
    }

    /** HALTS and LEARNING in all PLACES but the first: in a mirage none halt, but calves learn. */
    private static void learningInEveryPlace() {
        for (int kind = 0; kind <= 3; kind++) {
            GrievingCamels x = Checks.in("place 0;place " + kind + ";road 0 1 1;camel 0;camel 0;calf 1 0;hurt 0 1 8;law sum;");
            x.route(2, 1);
            Checks.is(22, "going to a place of kind " + kind, x.go(), kind == 3 ? 1 : 9);
            Checks.is(22, "learnt in a place of kind " + kind, x.grief(1, 1, 0), kind == 1 ? 3 : 4);
        }
    }

    /** "each GRIEF (in all PLACES) of each CAMEL of the row is one less (0 at least)" */
    private static void oneLessByFodder() {
        GrievingCamels x = Checks.in("place 0;place 1;" + "place 0;".repeat(8) + "road 0 1 1;" + "camel 0;".repeat(8));
        for (int p = 0; p < 10; p++) {
            for (int c = 0; c < 4; c++) {
                if (c > 0) {
                    x.hurt(p, c, c);
                }
                x.hurt(p, c + 4, c + 1);
            }
        }
        x.string(4, 3102);
        x.route(2, 1);
        x.go();
        for (int p = 0; p < 10; p++) {
            Checks.are(22, "griefs in place " + p, griefs(x, p), 0, 0, 1, 2, 1, 2, 3, 4);
            Checks.is(22, "depth in place " + p, x.grief(p, 1, 1), 1);
        }
        x.go();
        Checks.are(22, "griefs then", griefs(x, 9), 0, 0, 0, 1, 1, 2, 3, 4);
    }

    /** "by salt each that is above 0 is one more, to its DEPTH at most" */
    private static void oneMoreBySalt() {
        GrievingCamels x = Checks.in("place 0;place 2;" + "place 0;".repeat(8) + "road 0 1 1;" + "camel 0;".repeat(8));
        // Hurt, soothed, and hurt once more: the DEPTH is both together. Camel 7 is not of the row.
        int[] first = {0, 5, 1, 2, 5, 5, 20, 9};
        int[] then = {0, 0, 1, 1, 4, 5, 19, 1};
        for (int p : new int[] {0, 1, 9}) {
            for (int c = 1; c < 8; c++) {
                x.hurt(p, c, first[c]);
                x.soothe(p, c);
                if (then[c] > 0) {
                    x.hurt(p, c, then[c]);
                }
            }
        }
        x.string(7, 6543210);
        x.route(2, 1);
        x.go();
        for (int p : new int[] {0, 1, 9}) {
            Checks.are(22, "griefs in place " + p, griefs(x, p), 0, 0, 2, 2, 5, 6, 20, 1);
        }
        GrievingCamels y = Checks.in("place 1;place 2;road 0 1 1;camel 0;camel 0;camel 0;hurt 0 0 1;hurt 1 0 2;hurt 2 0 20;");
        y.route(2, 10);
        y.go();
        Checks.are(22, "less by fodder", griefs(y, 0), 0, 1, 19);
        y.route(2, 1);
        y.go();
        Checks.are(22, "0 stays, one below the depth, 19", griefs(y, 0), 0, 2, 20);
        y.go();
        Checks.are(22, "at the depth", griefs(y, 0), 0, 2, 20);
        Checks.are(22, "the depths", new long[] {y.grief(0, 0, 1), y.grief(0, 1, 1), y.grief(0, 2, 1)}, 1, 2, 20);
    }

    /** "HALTS in all PLACES but the first" of the JOURNEY, wherever it is told again. */
    private static void notInTheFirstPlace() {
        GrievingCamels x = Checks.in("place 1;place 0;road 0 1 1;camel 0;camel 0;calf 1 0;hurt 0 0 9;law sum;");
        x.route(2, 1);
        Checks.is(22, "no halt in the first", x.go(), 1);
        Checks.are(22, "nothing learnt or forgotten there", griefs(x, 0), 9, 0);
        x.route(3, 10);
        Checks.is(17, "one digit more", x.told(3), 3);
        Checks.are(20, "halts", new long[] {x.stop(0), x.stop(1), x.stop(2)}, 0, 0, 9);
        x.go();
        Checks.are(22, "there again", griefs(x, 0), 8, 3);
    }

    /** "DEPTH ..: all hours that hurt it there, 20 at most" */
    private static void depthIs20AtMost() {
        GrievingCamels x = Checks.in("place 0;camel 0;camel 0;hurt 0 0 12;");
        x.soothe(0, 0);
        int[] hours = {3, 4, 1, 1, 20};
        int[] griefs = {3, 7, 8, 9, 20};
        int[] depths = {15, 19, 20, 20, 20};
        for (int i = 0; i < hours.length; i++) {
            Checks.is(10, "hurt by " + hours[i], x.hurt(0, 0, hours[i]), griefs[i]);
            Checks.are(10, "grief, depth", new long[] {x.grief(0, 0, 0), x.grief(0, 0, 1)}, griefs[i], depths[i]);
        }
        Checks.are(10, "of another camel", new long[] {x.grief(0, 1, 0), x.grief(0, 1, 1)}, 0, 0);
        Checks.are(10, "to 19, 20, 20", new long[] {x.hurt(0, 1, 19), x.hurt(0, 1, 1), x.hurt(0, 1, 1)}, 19, 20, 20);
    }

    /** "what is LEARNT, if that is more" */
    private static void depthByLearning() {
        int[] depths = {3, 4, 5, 6, 7};
        for (int depth : depths) {
            GrievingCamels x = Checks.in(CALF + "hurt 0 1 10;hurt 1 1 " + depth + ";");
            x.soothe(1, 1);
            x.route(2, 1);
            x.go();
            Checks.are(9, "depth of " + depth, new long[] {x.grief(1, 1, 0), x.grief(1, 1, 1)}, 5, Math.max(5, depth));
        }
    }

    /** 10: "hurt for so many hours (1 to 20)" */
    private static void hoursOfHurt() {
        GrievingCamels x = Checks.in("place 0;camel 0;camel 0;");
        Checks.argument(10, "0", () -> x.hurt(0, 0, 0));
        Checks.argument(10, "21", () -> x.hurt(0, 0, 21));
        Checks.argument(10, "-1", () -> x.hurt(0, 0, -1));
        Checks.argument(10, "the greatest", () -> x.hurt(0, 0, MAX));
        Checks.argument(10, "the least", () -> x.hurt(0, 0, MIN));
        Checks.are(10, "nothing came of these", new long[] {x.grief(0, 0, 0), x.grief(0, 0, 1), x.status(2)}, 0, 0, 5);
        Checks.are(10, "1, 19, 20", new long[] {x.hurt(0, 0, 1), x.hurt(0, 1, 19), x.hurt(0, 0, 20)}, 1, 19, 20);
        Checks.index(10, "place 1", () -> x.hurt(1, 2, 0));
        Checks.index(10, "place -1", () -> x.hurt(-1, 0, 1));
        Checks.element(10, "camel 2", () -> x.hurt(0, 2, 0));
        Checks.element(10, "camel -1", () -> x.hurt(0, -1, 1));
    }

    /** 11: "GRIEF is 0 there (DEPTH stays): what it was." */
    private static void soothed() {
        GrievingCamels x = Checks.in("place 0;place 0;camel 0;camel 0;hurt 0 0 1;hurt 1 0 20;hurt 0 1 5;");
        Checks.are(11, "soothe", new long[] {x.soothe(0, 0), x.soothe(0, 1), x.soothe(1, 1)}, 1, 20, 0);
        Checks.are(11, "griefs", new long[] {x.grief(0, 0, 0), x.grief(0, 1, 0), x.grief(1, 1, 0), x.grief(1, 0, 0)},
                0, 0, 0, 5);
        Checks.are(11, "depths", new long[] {x.grief(0, 0, 1), x.grief(0, 1, 1), x.grief(1, 1, 1), x.grief(1, 0, 1)},
                1, 20, 0, 5);
        Checks.is(11, "once more", x.soothe(0, 1), 0);
        Checks.index(11, "place 2", () -> x.soothe(2, 9));
        Checks.index(11, "place -1", () -> x.soothe(-1, 0));
        Checks.element(11, "camel 2", () -> x.soothe(0, 2));
        Checks.element(11, "camel -1", () -> x.soothe(0, -1));
    }

    /** 12: "so many (0 to 8) CAMELS" */
    private static void howManyInTheRow() {
        GrievingCamels x = Checks.in("camel 0;".repeat(8));
        Checks.argument(12, "-1", () -> x.string(-1, 0));
        Checks.argument(12, "9", () -> x.string(9, 0));
        Checks.argument(12, "the least", () -> x.string(MIN, 0));
        Checks.argument(12, "the greatest", () -> x.string(MAX, 0));
        Checks.is(12, "it stays", x.told(2), 8);
        long[] rows = {0, 7, 70, 701, 1234, 54321, 543210, 6543210, 76543210};
        for (int many = 0; many <= 8; many++) {
            Checks.is(12, "string of " + many, x.string(many, rows[many]), 1);
            Checks.is(5, "camels of it", x.told(2), many);
            Checks.are(13, "ends of it", new long[] {x.row(many - 1), x.row(many), x.row(-1)},
                    many == 0 ? -1 : rows[many] % 10, -1, -1);
        }
        GrievingCamels none = new GrievingCamels();
        Checks.are(12, "no camels", new long[] {none.string(0, 0), none.string(1, 0), none.string(8, 1234567)}, 1, 0, 0);
    }

    /** 12: "as digits to the base 10 (the first the highest)"; "0: one is none" */
    private static void digitsOfTheRow() {
        GrievingCamels x = Checks.in("camel 0;camel 0;camel 0;");
        Checks.is(12, "a row", x.string(2, 20), 1);
        long[][] none = {{1, 3}, {1, 9}, {2, 3}, {2, 30}, {2, 23}, {3, 213}, {3, 312}, {3, 132}, {4, 123}, {4, 1023},
            {1, 10}, {1, 12}, {2, 120}, {2, 1000}, {3, 1012}, {3, 3012}, {0, 1}, {0, 10}, {0, -1}, {1, -1}, {2, -12},
            {1, Long.MIN_VALUE}, {8, Long.MAX_VALUE}, {2, 1L << 32}, {2, (1L << 32) + 12}, {1, 4294967297L}};
        for (long[] row : none) {
            Checks.is(12, row[1] + " of " + row[0], x.string((int) row[0], row[1]), 0);
            Checks.are(12, "it stays", new long[] {x.told(2), x.row(0), x.row(1)}, 2, 2, 0);
        }
        Checks.is(12, "0 ahead", x.string(3, 12), 1);
        Checks.are(13, "0 is first", new long[] {x.row(0), x.row(1), x.row(2)}, 0, 1, 2);
        Checks.is(12, "the last camel", x.string(1, 2), 1);
    }

    /** 12: "or twice (it stays)" */
    private static void eachOnce() {
        GrievingCamels x = Checks.in("camel 0;".repeat(8));
        x.string(3, 531);
        long[][] twice = {{2, 0}, {2, 11}, {3, 121}, {3, 100}, {3, 1}, {8, 76543217}, {8, 1123456}, {8, 12345677},
            {4, 7337}, {2, 77}};
        for (long[] row : twice) {
            Checks.is(12, row[1] + " of " + row[0], x.string((int) row[0], row[1]), 0);
            Checks.are(12, "it stays", new long[] {x.told(2), x.row(0), x.row(1), x.row(2), x.row(3)}, 3, 5, 3, 1, -1);
        }
        Checks.is(12, "each once", x.string(8, 76543201), 1);
    }

    /** "a STRING: CAMELS in a row (..; at first all, by number)"; 13: "NONE: none such" */
    private static void rowsFromEndToEnd() {
        GrievingCamels x = Checks.in("camel 0;".repeat(8));
        for (int i = 0; i < 8; i++) {
            Checks.is(13, "row " + i, x.row(i), i);
        }
        Checks.are(13, "none such", new long[] {x.row(8), x.row(-1), x.row(MIN), x.row(MAX)}, -1, -1, -1, -1);
        Checks.are(13, "no camels", new long[] {new GrievingCamels().row(0), new GrievingCamels().told(2)}, -1, 0);
        x.string(2, 70);
        Checks.are(13, "two", new long[] {x.row(0), x.row(1), x.row(2)}, 7, 0, -1);
    }

    /** 16: "bits of no CAMELS (so below)" */
    private static void whichBits() {
        for (int camels = 1; camels <= 8; camels++) {
            GrievingCamels x = Checks.in("place 0;" + "camel 0;".repeat(camels) + "law many;");
            int all = (1 << camels) - 1;
            x.hurt(0, camels - 1, 1);
            Checks.are(16, "of " + camels, new long[] {x.would(0, 0), x.would(0, all), x.would(0, all / 2)}, 0, 1, 0);
            Checks.argument(16, "one too many of " + camels, () -> x.would(0, all + 1));
            Checks.argument(16, "all and one too many of " + camels, () -> x.would(0, 2 * all + 1));
            Checks.argument(16, "the highest bit", () -> x.would(0, MIN));
            Checks.argument(16, "all bits", () -> x.would(0, -1));
            Checks.argument(16, "all but the highest", () -> x.would(0, MAX));
            Checks.argument(29, "lay, of " + camels, () -> x.lay(all + 1, 0));
            Checks.argument(32, "compared, of " + camels, () -> x.compared(all + 1, 0));
            Checks.argument(32, "others, of " + camels, () -> x.compared(0, all + 1));
            Checks.is(32, "compared with none", x.compared(all, 0), 0);
        }
        GrievingCamels y = Checks.in("place 0;");
        Checks.is(16, "no camels, no bits", y.would(0, 0), 0);
        Checks.argument(16, "no camels, a bit", () -> y.would(0, 1));
        Checks.index(16, "place 1", () -> y.would(1, 1));
        Checks.index(16, "place -1", () -> y.would(-1, 0));
        Checks.index(14, "place 1", () -> y.halt(1));
        Checks.index(14, "place -1", () -> y.halt(-1));
    }

    /** "SHY: of two CAMELS that stand next to one another in the STRING and quarrel: how many such pairs." */
    private static void pairsThatQuarrel() {
        GrievingCamels x = Checks.in("camel 0;camel 0;camel 0;camel 0;quarrel 0 1;quarrel 2 3;quarrel 0 3;quarrel 3 0;");
        long[][] rows = {{0, 0, 0}, {1, 0, 0}, {2, 1, 1}, {2, 10, 1}, {2, 2, 0}, {4, 123, 2}, {4, 1032, 3}, {4, 213, 0},
            {3, 21, 0}, {3, 103, 2}, {4, 1302, 1}, {4, 2013, 1}, {4, 3210, 2}};
        for (long[] row : rows) {
            Checks.is(12, "row " + row[1], x.string((int) row[0], row[1]), 1);
            Checks.is(47, "shy in " + row[1], x.shy(), row[2]);
        }
    }
}
