/**
 * The sentences of the document that name an edge of what is best (promises 24 to 28, 41, 42 and 49,
 * and the terms ahead of them): each with a test at the edge, and one on either side of it.
 */
public final class WayEdgesTest {
    private static final int MIN = Integer.MIN_VALUE;
    private static final int MAX = Integer.MAX_VALUE;

    public static void main(String[] args) {
        leastFromOneToItself();
        leastHours();
        leastWithHalts();
        theFirstSuchWay();
        noWay();
        tenPlacesOnTheWay();
        whichLeast();
        greatestLeastWay();
        theFirstTwo();
        noTwoPlaces();
        visitedWithin();
        visitedThereAndBack();
        visitedByHalts();
        mostVisitedLeastBits();
        whichVisited();
        bitsOfTheRoped();
        noSuchRow();
        oneRowIsLeft();
        theFirstRoping();
        ropedBehindALongerJourney();
        ropedByOrder();
        partedInTwo();
        partedLeastBits();
        partedOfFew();
        soldForTheFewestHours();
        soldForThePrice();
        soldOfFew();
        healedForTheFewestHours();
        healedFirst();
        theFewestTaken();
        leastBitsTaken();
        evenWithoutCamels();
        Checks.end("WayEdgesTest");
    }

    private static long[] least(GrievingCamels x, int from, int to) {
        return new long[] {x.least(from, to, 0), x.least(from, to, 1), x.least(from, to, 2)};
    }

    /** "from one PLACE to another one"; "none in the first PLACE" */
    private static void leastFromOneToItself() {
        GrievingCamels x = Checks.in("place 0;place 0;place 0;road 0 1 1;camel 0;hurt 0 0 9;hurt 0 1 9;hurt 0 2 9;");
        for (int p = 0; p < 3; p++) {
            Checks.are(24, "from " + p + " to itself", least(x, p, p), 0, 1, p);
        }
    }

    /** "of all ways by roads the least hours" */
    private static void leastHours() {
        for (int straight = 6; straight <= 8; straight++) {
            GrievingCamels x = Checks.in("place 0;place 0;place 0;road 0 1 4;road 1 2 3;road 0 2 " + straight + ";");
            // By 7 hours both ways are alike: that past place 1 is the first.
            Checks.are(24, "straight by " + straight, least(x, 0, 2), Math.min(7, straight), straight < 7 ? 2 : 3,
                    straight < 7 ? 2 : 12);
            Checks.are(24, "back by " + straight, least(x, 2, 0), Math.min(7, straight), straight < 8 ? 2 : 3,
                    straight < 8 ? 20 : 210);
        }
    }

    /** "each HALT by GRIEFS as they are now (nothing is learnt or forgotten; none in the first PLACE)" */
    private static void leastWithHalts() {
        GrievingCamels x = Checks.in("place 0;place 1;place 0;place 0;road 0 1 1;road 1 2 1;road 0 3 2;road 3 2 2;camel 0;"
            + "camel 0;calf 1 0;hurt 0 2 4;");
        Checks.are(24, "past the fodder nothing is forgotten", least(x, 0, 2), 6, 3, 12);
        x.hurt(1, 0, 2);
        Checks.are(24, "with 2 there both ways are alike", least(x, 0, 2), 8, 3, 12);
        x.hurt(1, 0, 1);
        Checks.are(24, "with 3 there", least(x, 0, 2), 8, 3, 32);
        Checks.are(24, "back no halt is in the first", least(x, 2, 0), 4, 3, 230);
        x.hurt(0, 1, 20);
        Checks.are(24, "but in the last", least(x, 2, 0), 24, 3, 230);
        x.string(0, 0);
        Checks.are(24, "without a string", least(x, 0, 2), 2, 3, 12);
    }

    /** "the first such (PLACE by PLACE)" */
    private static void theFirstSuchWay() {
        GrievingCamels x = Checks.in("place 0;place 0;place 0;place 0;place 0;road 0 4 4;road 0 3 2;road 3 4 2;road 0 2 1;"
            + "road 2 3 1;road 0 1 3;road 1 4 1;");
        Checks.are(24, "0 1 4 ahead of 0 2 3 4, 0 3 4, 0 4", least(x, 0, 4), 4, 3, 14);
        Checks.are(24, "4 0 ahead of 4 1 0, 4 3 0, 4 3 2 0", least(x, 4, 0), 4, 2, 40);
        Checks.are(24, "0 2 3 ahead of 0 3", least(x, 0, 3), 2, 3, 23);
        GrievingCamels y = Checks.in("place 0;place 0;place 0;road 0 1 1;road 1 2 1;road 0 2 2;camel 0;hurt 0 0 1;");
        Checks.are(24, "2 0 ahead of 2 1 0", least(y, 2, 0), 3, 2, 20);
    }

    /** "NONE: there is no way." */
    private static void noWay() {
        GrievingCamels x = Checks.in("place 0;place 0;place 0;place 0;road 0 1 24;road 2 3 24;");
        for (int what = 0; what < 3; what++) {
            Checks.are(24, "no way", new long[] {x.least(0, 2, what), x.least(3, 1, what)}, -1, -1);
        }
        Checks.are(24, "a way", least(x, 3, 2), 24, 2, 32);
    }

    private static void tenPlacesOnTheWay() {
        StringBuilder land = new StringBuilder("place 0;".repeat(10) + "camel 0;law 99;");
        for (int i = 0; i < 9; i++) {
            land.append("road ").append(i).append(" ").append(i + 1).append(" 24;hurt 0 ").append(i).append(" 1;");
        }
        GrievingCamels x = Checks.in(land.toString());
        x.hurt(9, 0, 1);
        Checks.are(24, "ten places up", least(x, 0, 9), 9 * (24 + 99), 10, 123456789L);
        Checks.are(24, "ten places down", least(x, 9, 0), 9 * (24 + 99), 10, 9876543210L);
        Checks.are(42, "the widest there are", new long[] {x.widest(0), x.widest(1)}, 1107, 9);
        Checks.are(41, "within 999", new long[] {x.visited(0, 999, 0), x.visited(0, 983, 0), x.visited(0, 984, 0),
            x.visited(0, 984, 1)}, 9, 8, 9, 511);
    }

    private static void whichLeast() {
        GrievingCamels x = Checks.in("place 0;place 0;road 0 1 1;");
        Checks.index(24, "from -1", () -> x.least(-1, 0, 9));
        Checks.index(24, "from 2", () -> x.least(2, 0, 0));
        Checks.index(24, "to -1", () -> x.least(0, -1, 0));
        Checks.index(24, "to 2", () -> x.least(0, 2, 9));
        Checks.argument(24, "what -1", () -> x.least(0, 1, -1));
        Checks.argument(24, "what 3", () -> x.least(0, 1, 3));
        Checks.argument(24, "what 3 of no way", () -> x.least(0, 0, MAX));
    }

    /** "WIDEST: the greatest LEAST way of two PLACES between which there is a way" */
    private static void greatestLeastWay() {
        GrievingCamels x = Checks.in("place 0;place 0;place 0;place 0;road 0 1 5;road 1 2 6;road 0 2 24;camel 0;");
        Checks.are(42, "past place 1; place 3 is not joined", new long[] {x.widest(0), x.widest(1)}, 11, 2);
        x.hurt(0, 0, 1);
        Checks.are(42, "back is wider", new long[] {x.widest(0), x.widest(1)}, 12, 20);
        x.hurt(2, 0, 1);
        Checks.are(42, "alike again", new long[] {x.widest(0), x.widest(1)}, 12, 2);
        x.hurt(1, 0, 20);
        Checks.are(42, "to place 1", new long[] {x.widest(0), x.widest(1), x.least(0, 2, 0)}, 26, 21, 25);
    }

    /** "of these the first two (the one from which, then to which)" */
    private static void theFirstTwo() {
        String land = "place 0;place 0;place 0;place 0;road 2 3 7;road 1 2 7;road 0 3 2;";
        GrievingCamels x = Checks.in(land + "road 1 0 12;");
        // 0 1: 12; 1 3: 14 by either way; 0 2: 9; so 1 3 ahead of 3 1.
        Checks.are(42, "1 and 3", new long[] {x.widest(0), x.widest(1)}, 14, 13);
        GrievingCamels y = Checks.in("place 0;place 0;place 0;road 0 1 7;road 0 2 7;road 1 2 7;");
        Checks.are(42, "all alike", new long[] {y.widest(0), y.widest(1)}, 7, 1);
        GrievingCamels z = Checks.in("place 0;place 0;place 0;road 0 1 6;road 0 2 7;road 1 2 7;");
        Checks.are(42, "of two", new long[] {z.widest(0), z.widest(1)}, 7, 2);
    }

    /** "NONE: no two PLACES are joined by a way." */
    private static void noTwoPlaces() {
        for (String land : new String[] {"", "place 0;", "place 0;place 0;place 0;camel 0;hurt 0 1 3;"}) {
            GrievingCamels x = Checks.in(land);
            Checks.are(42, "none in " + land, new long[] {x.widest(0), x.widest(1)}, -1, -1);
            Checks.argument(42, "what -1", () -> x.widest(-1));
            Checks.argument(42, "what 2", () -> x.widest(2));
        }
        Checks.are(42, "one hour", new long[] {Checks.in("place 0;place 0;road 0 1 1;").widest(0),
            Checks.in("place 0;place 0;road 0 1 1;").widest(1)}, 1, 1);
    }

    private static long[] visited(GrievingCamels x, int from, int hours) {
        return new long[] {x.visited(from, hours, 0), x.visited(from, hours, 1)};
    }

    /** "within so many hours (0 to 999; that one counts)" */
    private static void visitedWithin() {
        GrievingCamels x = Checks.in("place 0;place 0;place 0;road 0 1 3;road 1 2 4;");
        int[] hours = {0, 2, 3, 4, 6, 7, 8, 998, 999};
        int[] bits = {1, 1, 3, 3, 3, 7, 7, 7, 7};
        for (int i = 0; i < hours.length; i++) {
            Checks.are(41, "within " + hours[i], visited(x, 0, hours[i]), Integer.bitCount(bits[i]), bits[i]);
        }
        Checks.are(41, "from the midst, there and back: 3, 3, 4", visited(x, 1, 9), 2, 3);
        Checks.are(41, "from the midst", visited(x, 1, 10), 3, 7);
        Checks.are(41, "alone", visited(Checks.in("place 0;place 0;"), 1, 999), 1, 2);
    }

    private static void visitedThereAndBack() {
        GrievingCamels x = Checks.in("place 0;place 0;place 0;place 0;road 0 1 1;road 0 2 2;road 0 3 3;");
        // Each but the last one there and back.
        Checks.are(41, "1 2 and 4 less one", visited(x, 0, 8), 3, 7);
        Checks.are(41, "1 1 2 2 3", visited(x, 0, 9), 4, 15);
        Checks.are(41, "two of them: 1 1 2", visited(x, 0, 4), 3, 7);
        Checks.are(41, "one of them", visited(x, 0, 3), 2, 3);
        Checks.are(41, "from an end", visited(x, 3, 6), 3, 11);
        Checks.are(41, "from an end, all: 3 1 1 2", visited(x, 3, 7), 4, 15);
    }

    /** "by roads and HALTS as they are now, PLACES come through halt, too" */
    private static void visitedByHalts() {
        GrievingCamels x = Checks.in("place 0;place 1;place 0;road 0 1 1;road 1 2 1;camel 0;hurt 0 1 5;hurt 0 2 3;hurt 0 0 7;");
        Checks.are(41, "5 are too few", visited(x, 0, 5), 1, 1);
        Checks.are(41, "6: a road and a halt", visited(x, 0, 6), 2, 3);
        Checks.are(41, "9 are too few, nothing is forgotten", visited(x, 0, 9), 2, 3);
        Checks.are(41, "10: both", visited(x, 0, 10), 3, 7);
        Checks.are(41, "one of them", visited(x, 1, 7), 2, 6);
        Checks.are(41, "of two the least bits", visited(x, 1, 8), 2, 3);
        Checks.are(41, "the first place does not halt, but to come back does: 4, 6, 8", visited(x, 1, 17), 2, 3);
        Checks.are(41, "18", visited(x, 1, 18), 3, 7);
        x.string(0, 0);
        Checks.are(41, "without a string", visited(x, 0, 2), 3, 7);
    }

    /** "the most unlike PLACES ..; of the sets of so many the least bits" */
    private static void mostVisitedLeastBits() {
        GrievingCamels x = Checks.in("place 0;place 0;place 0;place 0;place 0;road 2 3 1;road 3 4 1;road 2 0 2;road 2 1 2;");
        Checks.are(41, "2 3 4, not 2 0", visited(x, 2, 2), 3, 28);
        Checks.are(41, "2 3 or 2 0: none by 1 but 3", visited(x, 2, 1), 2, 12);
        Checks.are(41, "2 3 2 0 is 7, less than 2 3 4", visited(x, 2, 3), 3, 28);
        Checks.are(41, "2 3 2 0 by 4", visited(x, 2, 4), 3, 13);
        GrievingCamels y = Checks.in("place 0;place 0;place 0;place 0;road 3 2 1;road 3 1 1;road 3 0 1;");
        Checks.are(41, "of three alike the least", visited(y, 3, 1), 2, 9);
        Checks.are(41, "of three pairs the least", visited(y, 3, 3), 3, 11);
        GrievingCamels ten = Checks.in("place 0;".repeat(10) + "road 0 9 1;road 9 8 1;road 8 7 1;road 7 6 1;road 6 5 1;"
            + "road 5 4 1;road 4 3 1;road 3 2 1;road 2 1 1;");
        Checks.are(41, "all ten", visited(ten, 0, 9), 10, 1023);
        Checks.are(41, "nine of ten", visited(ten, 0, 8), 9, 1021);
    }

    private static void whichVisited() {
        GrievingCamels x = Checks.in("place 0;place 0;road 0 1 1;");
        for (int hours : new int[] {-1, 1000, MIN, MAX}) {
            Checks.argument(41, "hours of " + hours, () -> x.visited(0, hours, 0));
        }
        Checks.argument(41, "what -1", () -> x.visited(0, 0, -1));
        Checks.argument(41, "what 2", () -> x.visited(0, 0, 2));
        Checks.index(41, "place -1", () -> x.visited(-1, -1, 0));
        Checks.index(41, "place 2", () -> x.visited(2, 0, 0));
    }

    /** 25: "bits of none, of no CAMELS, of more than 6, what" */
    private static void bitsOfTheRoped() {
        GrievingCamels x = Checks.in("place 0;place 0;road 0 1 1;" + "camel 0;".repeat(8));
        Checks.argument(25, "bits of none go ahead of no journey", () -> x.roped(0, 0));
        x.route(2, 1);
        for (int bits : new int[] {0, 127, 254, 255, 256, 257, 511, -1, MIN, MAX, 191}) {
            Checks.argument(25, "bits of " + bits, () -> x.roped(bits, 0));
        }
        Checks.argument(25, "what -1", () -> x.roped(1, -1));
        Checks.argument(25, "what 2", () -> x.roped(1, 2));
        int[] bits = {1, 128, 3, 31, 63, 252, 219};
        long[] rows = {0, 7, 1, 1234, 12345, 234567, 13467};
        for (int i = 0; i < bits.length; i++) {
            int each = bits[i];
            Checks.are(25, "bits of " + each, new long[] {x.roped(each, 0), x.roped(each, 1)}, 1, rows[i]);
        }
        GrievingCamels y = Checks.in("place 0;place 0;road 0 1 1;camel 0;camel 0;camel 0;");
        y.route(2, 1);
        Checks.are(25, "three camels", new long[] {y.roped(7, 1), y.roped(4, 1)}, 12, 2);
        Checks.argument(25, "a fourth", () -> y.roped(8, 0));
        Checks.argument(25, "a fourth with others", () -> y.roped(15, 0));
    }

    /** "NONE: there is no such row." */
    private static void noSuchRow() {
        GrievingCamels x = Checks.in("place 0;place 0;road 0 1 1;camel 0;camel 0;camel 0;camel 0;quarrel 0 1;quarrel 1 2;"
            + "quarrel 0 2;");
        x.route(2, 1);
        for (int bits : new int[] {3, 5, 6, 7, 15}) {
            Checks.are(25, "bits of " + bits, new long[] {x.roped(bits, 0), x.roped(bits, 1)}, -1, -1);
        }
        Checks.are(25, "with a peaceful one between", new long[] {x.roped(11, 0), x.roped(11, 1), x.roped(14, 1),
            x.roped(1, 1), x.roped(9, 1)}, 1, 31, 132, 0, 3);
    }

    /** Of six camels all quarrel but those that are next to one another in a row: this one is left, and it turned round. */
    private static void oneRowIsLeft() {
        for (int code = 0; code < 720; code++) {
            int[] row = order(code);
            StringBuilder land = new StringBuilder("place 0;place 0;road 0 1 1;" + "camel 0;".repeat(7));
            long digits = 0;
            long turned = 0;
            for (int i = 0; i < 6; i++) {
                digits = digits * 10 + row[i];
                turned = turned * 10 + row[5 - i];
                for (int k = i + 2; k < 6; k++) {
                    land.append("quarrel ").append(row[k]).append(" ").append(row[i]).append(";");
                }
            }
            GrievingCamels x = Checks.in(land.toString());
            x.route(2, 1);
            Checks.are(25, "row " + digits, new long[] {x.roped(63, 0), x.roped(63, 1)}, 1, Math.min(digits, turned));
        }
    }

    private static int[] order(int code) {
        java.util.List<Integer> left = new java.util.ArrayList<>(java.util.List.of(0, 1, 2, 3, 4, 5));
        int[] row = new int[6];
        int rest = code;
        for (int i = 0; i < 6; i++) {
            row[i] = left.remove(rest % left.size());
            rest /= 6 - i;
        }
        return row;
    }

    private static void ropedBehindALongerJourney() {
        GrievingCamels x = Checks.in("place 0;place 0;place 0;road 0 1 1;road 1 2 1;camel 0;camel 0;hurt 0 2 9;hurt 1 1 2;");
        x.route(3, 12);
        Checks.are(25, "three places", new long[] {x.roped(3, 0), x.roped(3, 1), x.hours(0)}, 13, 1, 13);
        x.route(2, 1);
        Checks.are(25, "two places", new long[] {x.roped(3, 0), x.roped(3, 1), x.hours(0)}, 3, 1, 3);
    }

    /** "of these the first (CAMEL by CAMEL)" */
    private static void theFirstRoping() {
        GrievingCamels x = Checks.in("place 0;place 0;road 0 1 1;camel 0;camel 0;camel 0;camel 0;hurt 1 1 3;hurt 2 1 3;"
            + "hurt 3 1 4;law last;");
        x.route(2, 1);
        Checks.are(25, "last is 3: 0 1 3 2 ahead of 0 3 1 2", new long[] {x.roped(15, 0), x.roped(15, 1)}, 4, 132);
        Checks.are(25, "two of them", new long[] {x.roped(12, 0), x.roped(12, 1), x.roped(6, 1)}, 4, 32, 12);
        x.string(4, 3210);
        Checks.is(25, "by the told camels, not by the string", x.roped(15, 1), 132);
        Checks.are(25, "the string stays", new long[] {x.row(0), x.row(3), x.told(2)}, 3, 0, 4);
    }

    /** "the one by which the told JOURNEY takes least": by orders, HALTS, what is learnt. */
    private static void ropedByOrder() {
        GrievingCamels x = Checks.in("place 0;place 0;place 1;place 0;road 0 1 1;road 1 2 1;road 2 1 1;road 2 3 1;camel 0;"
            + "camel 0;camel 0;calf 2 0;hurt 0 1 9;hurt 1 1 2;hurt 1 3 8;hurt 0 3 3;law first*2-last;");
        x.route(5, 1213);
        Checks.is(17, "not joined", x.told(3), 0);
        x.route(5, 12123);
        Checks.is(17, "joined by five", x.told(3), 5);
        int least = 999;
        long row = 0;
        for (long each : new long[] {12, 21, 102, 120, 201, 210}) {
            x.string(3, each);
            if (x.hours(0) < least) {
                least = x.hours(0);
                row = each;
            }
        }
        Checks.are(25, "as each string would", new long[] {x.roped(7, 0), x.roped(7, 1)}, least, row);
    }

    private static final String SUMS = "place 0;place 0;road 0 1 2;camel 0;camel 0;camel 0;camel 0;law sum;";

    /** "the way by which the slower one takes least .., each by itself" */
    private static void partedInTwo() {
        GrievingCamels x = Checks.in(SUMS + "hurt 0 1 7;hurt 1 1 5;hurt 2 1 4;hurt 3 1 3;");
        x.route(2, 1);
        Checks.are(26, "7 and 3, 5 and 4", new long[] {x.parted(0), x.parted(1)}, 12, 9);
        x.string(3, 210);
        Checks.are(26, "without the fourth", new long[] {x.parted(0), x.parted(1)}, 11, 6);
        x.string(2, 30);
        Checks.are(26, "two", new long[] {x.parted(0), x.parted(1)}, 9, 8);
        // A calf without its mother learns nothing.
        GrievingCamels y = Checks.in("place 0;place 0;road 0 1 1;camel 0;camel 0;calf 1 0;hurt 0 1 8;law sum;");
        y.route(4, 101);
        Checks.are(26, "each by itself", new long[] {y.hours(0), y.parted(0), y.parted(1)}, 23, 19, 1);
    }

    /** "of these the least (bits of those in the first; the first CAMEL of the row is in it)" */
    private static void partedLeastBits() {
        GrievingCamels x = Checks.in(SUMS);
        x.route(2, 1);
        long[] rows = {123, 1032, 2310, 3210};
        for (long row : rows) {
            x.string(4, row);
            Checks.are(26, "no griefs, row " + row, new long[] {x.parted(0), x.parted(1)}, 2, 1 << row / 1000);
        }
        x.hurt(1, 0, 2);
        x.hurt(1, 1, 2);
        x.string(4, 123);
        Checks.are(26, "0 alone", new long[] {x.parted(0), x.parted(1)}, 4, 1);
        x.string(4, 3012);
        Checks.are(26, "3 and 0", new long[] {x.parted(0), x.parted(1)}, 4, 9);
        x.hurt(1, 3, 2);
        Checks.are(26, "3 alone, or with 0, or with 1", new long[] {x.parted(0), x.parted(1)}, 6, 8);
        GrievingCamels y = Checks.in(SUMS.replace("sum", "1"));
        y.route(2, 1);
        y.hurt(1, 0, 1);
        Checks.are(26, "one hour is for whom 0 is with", new long[] {y.parted(0), y.parted(1)}, 3, 1);
    }

    /** "one may be empty, and takes 0"; "(0 without CAMELS)" */
    private static void partedOfFew() {
        GrievingCamels x = Checks.in(SUMS + "hurt 0 1 7;");
        x.route(2, 1);
        x.string(1, 0);
        Checks.are(26, "one", new long[] {x.parted(0), x.parted(1)}, 9, 1);
        x.string(1, 3);
        Checks.are(26, "another one", new long[] {x.parted(0), x.parted(1)}, 2, 8);
        x.string(0, 0);
        Checks.are(26, "none", new long[] {x.parted(0), x.parted(1)}, 0, 0);
        Checks.argument(26, "what -1", () -> x.parted(-1));
        Checks.argument(26, "what 2", () -> x.parted(2));
        GrievingCamels y = Checks.in("place 0;place 0;road 0 1 1;camel 0;camel 0;camel 0;hurt 0 1 9;hurt 1 1 9;hurt 2 1 9;"
            + "law 30-many*10;");
        y.route(2, 1);
        Checks.are(26, "all three together, none in the other", new long[] {y.parted(0), y.parted(1)}, 1, 7);
        GrievingCamels all = Checks.in("place 0;place 0;road 0 1 1;" + "camel 0;".repeat(8) + "law sum;");
        all.route(2, 1);
        for (int c = 0; c < 8; c++) {
            all.hurt(1, c, c + 1);
        }
        // 36 hours of grief: 18 each. Camels 0 to 4 have 15 alone; with camel 5 there are 1, 2, 4, 5 and 6.
        Checks.are(26, "all eight", new long[] {all.parted(0), all.parted(1)}, 19, 59);
    }

    /** "the CAMEL of the row without which the told JOURNEY takes fewest hours" */
    private static void soldForTheFewestHours() {
        GrievingCamels x = Checks.in("place 0;place 0;road 0 1 2;camel 99;camel 0;camel 50;camel 98;law sum;hurt 0 1 4;"
            + "hurt 1 1 5;hurt 2 1 4;hurt 3 1 4;");
        x.route(2, 1);
        Checks.are(27, "one hour less, by the least price", new long[] {x.sell(0), x.sell(1)}, 1, 14);
        x.string(3, 32);
        Checks.are(27, "of the row alone", new long[] {x.sell(0), x.sell(1)}, 0, 10);
    }

    /** "of these the one of the greatest price, of these the first" */
    private static void soldForThePrice() {
        String land = "place 0;place 0;road 0 1 2;camel 5;camel 7;camel 7;camel 6;law sum;";
        GrievingCamels x = Checks.in(land);
        x.route(2, 1);
        Checks.are(27, "the first of 7", new long[] {x.sell(0), x.sell(1)}, 1, 2);
        x.string(4, 3210);
        Checks.is(27, "the first of the row", x.sell(0), 2);
        x.string(2, 3);
        Checks.is(27, "6 ahead of 5", x.sell(0), 3);
        x.string(2, 30);
        Checks.is(27, "6 ahead of 5, the other way round", x.sell(0), 3);
        x.hurt(1, 0, 1);
        Checks.are(27, "hours go ahead of prices", new long[] {x.sell(0), x.sell(1)}, 0, 2);
    }

    /** "NONE: the row is empty." */
    private static void soldOfFew() {
        GrievingCamels x = Checks.in(SUMS + "hurt 2 1 3;");
        x.route(2, 1);
        x.string(1, 2);
        Checks.are(27, "one", new long[] {x.sell(0), x.sell(1), x.hours(0)}, 2, 2, 5);
        x.string(0, 0);
        Checks.are(27, "none", new long[] {x.sell(0), x.sell(1)}, -1, -1);
        Checks.argument(27, "what -1", () -> x.sell(-1));
        Checks.argument(27, "what 2", () -> x.sell(2));
        // Without its mother a calf learns nothing: both halts are less.
        GrievingCamels y = Checks.in("place 0;place 0;road 0 1 1;camel 0;camel 0;calf 1 0;hurt 0 1 8;hurt 1 1 1;law sum;");
        y.route(4, 101);
        Checks.are(27, "the mother", new long[] {y.hours(0), y.sell(0), y.sell(1)}, 24, 0, 5);
    }

    /** "the PLACE in which all GRIEFS are to be 0, by which the told JOURNEY takes fewest hours" */
    private static void healedForTheFewestHours() {
        GrievingCamels x = Checks.in("place 0;place 0;place 0;road 0 1 1;road 1 2 1;camel 0;camel 0;hurt 0 1 3;hurt 1 2 4;"
            + "hurt 1 1 2;law sum;");
        x.route(3, 12);
        Checks.are(28, "5 ahead of 4", new long[] {x.heal(0), x.heal(1), x.hours(0)}, 1, 6, 11);
        x.string(1, 1);
        Checks.are(28, "of the string", new long[] {x.heal(0), x.heal(1), x.hours(0)}, 2, 4, 8);
        Checks.are(28, "nothing is healed", new long[] {x.grief(1, 0, 0), x.grief(2, 1, 0)}, 3, 4);
        // What is healed is not learnt, either; what was hurt ten places on is healed, too.
        GrievingCamels y = Checks.in("place 0;".repeat(9) + "place 0;road 0 9 1;" + "camel 0;".repeat(8)
            + "calf 7 0;hurt 0 9 8;law sum;");
        Checks.is(17, "0 9 0 9", y.route(4, 909), 3);
        Checks.are(28, "the last place", new long[] {y.hours(0), y.heal(0), y.heal(1)}, 23, 9, 3);
        y.hurt(9, 7, 5);
        Checks.are(28, "of the last camel, too", new long[] {y.heal(0), y.heal(1)}, 9, 3);
    }

    /** "of these the first" */
    private static void healedFirst() {
        GrievingCamels x = Checks.in("place 0;place 0;place 0;road 0 1 1;road 1 2 1;camel 0;hurt 0 0 9;");
        x.route(3, 12);
        Checks.are(28, "no halts", new long[] {x.heal(0), x.heal(1)}, 0, 2);
        x.hurt(1, 0, 3);
        x.hurt(2, 0, 3);
        Checks.are(28, "alike", new long[] {x.heal(0), x.heal(1)}, 1, 5);
        x.hurt(2, 0, 1);
        Checks.are(28, "one more", new long[] {x.heal(0), x.heal(1)}, 2, 5);
        Checks.argument(28, "what -1", () -> x.heal(-1));
        Checks.argument(28, "what 2", () -> x.heal(2));
    }

    /** "the fewest CAMELS to be taken from the STRING so that the told JOURNEY takes no more than so many hours" */
    private static void theFewestTaken() {
        GrievingCamels x = Checks.in(SUMS + "hurt 0 1 1;hurt 1 1 2;hurt 2 1 4;hurt 3 1 8;");
        x.route(2, 1);
        int[] hours = {9999, 18, 17, 16, 15, 13, 12, 10, 9, 8, 6, 5, 4, 3, 2, 1, 0};
        int[] due = {0, 0, 0, 1, 2, 4, 8, 8, 8, 9, 12, 12, 13, 14, 15, -1, -1};
        for (int i = 0; i < hours.length; i++) {
            Checks.is(49, "light by " + hours[i], x.light(hours[i]), due[i]);
        }
        x.string(2, 31);
        Checks.are(49, "of the string", new long[] {x.light(12), x.light(11), x.light(10), x.light(9), x.light(4),
            x.light(3), x.light(2), x.light(1)}, 0, 2, 2, 8, 8, 10, 10, -1);
    }

    /** "of alike ones the least bits" */
    private static void leastBitsTaken() {
        GrievingCamels x = Checks.in(SUMS + "hurt 0 1 2;hurt 1 1 2;hurt 2 1 4;hurt 3 1 4;");
        x.route(2, 1);
        Checks.are(49, "least bits", new long[] {x.light(14), x.light(13), x.light(12), x.light(11), x.light(10),
            x.light(9), x.light(8), x.light(6), x.light(4), x.light(3)}, 0, 1, 1, 4, 4, 5, 5, 12, 13, 15);
        x.string(4, 3210);
        Checks.are(49, "not by the row", new long[] {x.light(13), x.light(11), x.light(9)}, 1, 4, 5);
        GrievingCamels all = Checks.in("place 0;place 0;road 0 1 1;" + "camel 0;".repeat(8) + "law sum;");
        all.route(2, 1);
        for (int c = 0; c < 8; c++) {
            all.hurt(1, c, c == 7 ? 2 : 1);
        }
        Checks.are(49, "eight", new long[] {all.light(10), all.light(9), all.light(8), all.light(1), all.light(0)},
                0, 1, 128, 255, -1);
    }

    /** "NONE: even without CAMELS it takes more." */
    private static void evenWithoutCamels() {
        GrievingCamels x = Checks.in(SUMS + "hurt 0 1 1;");
        x.route(2, 1);
        Checks.are(49, "roads of 2", new long[] {x.light(3), x.light(2), x.light(1), x.light(0)}, 0, 1, -1, -1);
        x.string(0, 0);
        Checks.are(49, "an empty string", new long[] {x.light(3), x.light(2), x.light(1)}, 0, 0, -1);
        // Fewer camels can halt longer: 40 less 10 for each.
        GrievingCamels y = Checks.in(SUMS.replace("sum", "40-many*10") + "hurt 0 1 1;hurt 1 1 1;hurt 2 1 1;");
        y.route(2, 1);
        Checks.are(49, "all, or none at all", new long[] {y.light(12), y.light(11), y.light(2)}, 0, 7, 7);
    }
}
