/**
 * The sentences of the document that name an edge of what was seen (promises 29 to 32, and the terms
 * ahead of them): each with a test at the edge, and one on either side of it.
 */
public final class SeenEdgesTest {
    private static final int MIN = Integer.MIN_VALUE;
    private static final int MAX = Integer.MAX_VALUE;

    public static void main(String[] args) {
        nineLines();
        hoursLain();
        whoLay();
        allLinesGo();
        zeroToFiveEach();
        camelsZeroToFive();
        sixthAndSeventhHaveNone();
        theFirstWay();
        sureOfAll();
        clearOfThese();
        withoutAWay();
        noMirageInQuestion();
        linesByNumberInARow();
        linesByLaws();
        comparedHalfCut();
        comparedAsTheyMet();
        comparedInAllPlaces();
        comparedWithNone();
        Checks.end("SeenEdgesTest");
    }

    private static long[] explained(GrievingCamels x) {
        return new long[] {x.explain(0), x.explain(1), x.explain(2), x.explain(3)};
    }

    /** "9 lines at most"; "-1: there are 9" */
    private static void nineLines() {
        GrievingCamels x = Checks.in("camel 0;camel 0;");
        for (int i = 1; i <= 9; i++) {
            Checks.is(29, "line " + i, x.lay(1, 3), i);
            Checks.is(5, "lines", x.told(4), i);
        }
        Checks.are(31, "nine alike", explained(x), 6, 18, 1, 0);
        Checks.are(29, "a tenth, and another", new long[] {x.lay(2, 2), x.lay(1, 99), x.told(4)}, -1, -1, 9);
        Checks.are(31, "they are not there", explained(x), 6, 18, 1, 0);
        Checks.argument(29, "bad bits go ahead", () -> x.lay(4, 0));
        Checks.argument(29, "bad hours go ahead", () -> x.lay(1, 100));
        Checks.is(30, "all nine go", x.clear(), 9);
        Checks.is(29, "the first again", x.lay(2, 2), 1);
        for (int i = 2; i <= 8; i++) {
            x.lay(2, 2);
        }
        Checks.is(29, "the ninth is another one", x.lay(2, 3), 9);
        Checks.are(31, "it counts", explained(x), 0, -1, 0, 0);
    }

    /** "so many hours (0 to 99)" */
    private static void hoursLain() {
        GrievingCamels x = Checks.in("camel 0;law many*99;");
        for (int hours : new int[] {-1, 100, MIN, MAX}) {
            Checks.argument(29, "hours of " + hours, () -> x.lay(1, hours));
        }
        Checks.are(29, "nothing came of it", new long[] {x.told(4), x.status(2)}, 0, 4);
        Checks.is(29, "99", x.lay(1, 99), 1);
        Checks.are(31, "by 99", explained(x), 5, 1, 1, 0);
        x.clear();
        Checks.is(29, "98", x.lay(1, 98), 1);
        Checks.are(31, "by 98", explained(x), 0, -1, 0, 0);
        x.clear();
        Checks.is(29, "0", x.lay(1, 0), 1);
        Checks.are(31, "by 0", explained(x), 1, 0, 0, 1);
        x.clear();
        Checks.is(29, "1", x.lay(1, 1), 1);
        Checks.are(31, "by 1", explained(x), 0, -1, 0, 0);
    }

    /** "some CAMELS (bits)" */
    private static void whoLay() {
        GrievingCamels x = Checks.in("camel 0;camel 0;camel 0;");
        for (int bits : new int[] {8, 9, 15, 16, 256, -1, MIN, MAX}) {
            Checks.argument(29, "bits of " + bits, () -> x.lay(bits, 0));
        }
        Checks.are(29, "edges", new long[] {x.lay(0, 0), x.lay(1, 0), x.lay(7, 0)}, 1, 2, 3);
        GrievingCamels none = new GrievingCamels();
        Checks.argument(29, "no camels", () -> none.lay(1, 0));
        Checks.are(29, "no bits", new long[] {none.lay(0, 0), none.explain(0), none.lay(0, 1), none.explain(0)}, 1, 1, 2, 0);
    }

    /** "All lines go: how many." */
    private static void allLinesGo() {
        GrievingCamels x = Checks.in("camel 0;");
        Checks.is(30, "none", x.clear(), 0);
        x.lay(1, 1);
        x.lay(1, 2);
        Checks.are(31, "contrary", explained(x), 0, -1, 0, 0);
        Checks.are(30, "two, then none", new long[] {x.clear(), x.told(4), x.clear()}, 2, 0, 0);
        Checks.are(31, "without lines", explained(x), 6, 0, 0, 0);
        Checks.is(29, "the first", x.lay(1, 5), 1);
        Checks.are(31, "by this one alone", explained(x), 1, 5, 1, 0);
    }

    /** "by hours of grief (0 to 5 each)" */
    private static void zeroToFiveEach() {
        int[] hours = {0, 1, 2, 4, 5, 6, 7};
        for (int each : hours) {
            GrievingCamels x = Checks.in("camel 0;");
            x.lay(1, each);
            Checks.are(31, "grief of " + each, explained(x), each <= 5 ? 1 : 0, each <= 5 ? each : -1,
                    each > 0 && each <= 5 ? 1 : 0, each == 0 ? 1 : 0);
        }
        GrievingCamels two = Checks.in("camel 0;camel 0;law sum;");
        two.lay(3, 10);
        Checks.are(31, "10 by two", explained(two), 1, 35, 3, 0);
        two.clear();
        two.lay(3, 11);
        Checks.are(31, "11 by two", explained(two), 0, -1, 0, 0);
        two.clear();
        two.lay(3, 9);
        Checks.are(31, "9 by two", explained(two), 2, 29, 3, 0);
    }

    /** "of CAMELS 0 to 5 (those told)" */
    private static void camelsZeroToFive() {
        int ways = 1;
        for (int camels = 0; camels <= 8; camels++) {
            GrievingCamels x = Checks.in("camel 0;".repeat(camels));
            Checks.are(31, "without lines, of " + camels, explained(x), ways, 0, 0, 0);
            x.lay((1 << camels) - 1, 0);
            Checks.are(31, "none has any, of " + camels, explained(x), 1, 0, 0, (1 << Math.min(6, camels)) - 1);
            x.clear();
            if (camels > 0) {
                x.lay(1, 5);
                Checks.are(31, "camel 0 has 5, of " + camels, explained(x), ways / 6,
                        5 * (ways / 6), 1, 0);
                x.clear();
                int last = Math.min(5, camels - 1);
                x.lay(1 << last, 4);
                Checks.are(31, "the last one has 4, of " + camels, explained(x), ways / 6, 4, 1 << last, 0);
            }
            ways = camels < 6 ? ways * 6 : ways;
        }
    }

    /** "all others 0" */
    private static void sixthAndSeventhHaveNone() {
        GrievingCamels x = Checks.in("camel 0;".repeat(8) + "law sum;");
        x.lay(192, 0);
        Checks.are(31, "6 and 7 have none", explained(x), 46656, 0, 0, 0);
        x.lay(224, 5);
        Checks.are(31, "5 has all of it", explained(x), 7776, 5, 32, 0);
        x.lay(64, 1);
        Checks.are(31, "6 can have none", explained(x), 0, -1, 0, 0);
        x.clear();
        x.lay(128, 1);
        Checks.is(31, "7 can have none", x.explain(0), 0);
        GrievingCamels seven = Checks.in("camel 0;".repeat(7) + "law last;");
        seven.lay(127, 3);
        // The last one that has any has 3, those behind it none: 1 and 6 and .. and 7776 ways.
        Checks.are(31, "by the last one", explained(seven), 9331, 3, 0, 0);
    }

    /** "the first (digits to the base 6, CAMEL 0's the highest)" */
    private static void theFirstWay() {
        GrievingCamels x = Checks.in("camel 0;camel 0;camel 0;law sum;");
        x.lay(7, 14);
        Checks.are(31, "4 5 5 is the first of three", explained(x), 3, 4 * 36 + 5 * 6 + 5, 7, 0);
        x.lay(1, 5);
        Checks.are(31, "5 4 5 of two", explained(x), 2, 5 * 36 + 4 * 6 + 5, 7, 0);
        x.lay(4, 4);
        Checks.are(31, "5 5 4 alone", explained(x), 1, 5 * 36 + 5 * 6 + 4, 7, 0);
        GrievingCamels six = Checks.in("camel 0;".repeat(6) + "law sum;");
        six.lay(63, 30);
        Checks.are(31, "5 each", explained(six), 1, 46655, 63, 0);
        six.clear();
        six.lay(63, 29);
        Checks.are(31, "one has 4", explained(six), 6, 46655 - 7776, 63, 0);
        six.clear();
        six.lay(63, 1);
        Checks.are(31, "one has 1", explained(six), 6, 1, 0, 0);
    }

    /** "SURE: CAMELS that have grief by all ways (bits)" */
    private static void sureOfAll() {
        GrievingCamels x = Checks.in("camel 0;camel 0;camel 0;law sum;");
        x.lay(3, 5);
        Checks.are(31, "one of two has some", explained(x), 36, 30, 0, 0);
        x.clear();
        x.lay(3, 6);
        Checks.are(31, "both have some", explained(x), 30, 36 + 30, 3, 0);
        x.lay(4, 1);
        Checks.are(31, "all have some", explained(x), 5, 36 + 30 + 1, 7, 0);
    }

    /** "CLEAR: by none (of these)" */
    private static void clearOfThese() {
        GrievingCamels x = Checks.in("camel 0;".repeat(8));
        x.lay(1, 0);
        Checks.are(31, "camel 0 is clear", explained(x), 7776, 0, 0, 1);
        x.lay(32, 0);
        Checks.are(31, "camel 5, too", explained(x), 1296, 0, 0, 33);
        x.lay(255, 0);
        Checks.are(31, "camels 6 and 7 are none of these", explained(x), 1, 0, 0, 63);
    }

    /** "the first (NONE), 2 SURE, 3 CLEAR (0 without a way)" */
    private static void withoutAWay() {
        GrievingCamels x = Checks.in("camel 0;camel 0;");
        x.lay(1, 0);
        x.lay(2, 3);
        Checks.are(31, "one way", explained(x), 1, 3, 2, 1);
        x.lay(2, 4);
        Checks.are(31, "no way", explained(x), 0, -1, 0, 0);
        Checks.argument(31, "what -1", () -> x.explain(-1));
        Checks.argument(31, "what 4", () -> x.explain(4));
        GrievingCamels y = Checks.in("camel 0;camel 0;");
        y.lay(0, 1);
        Checks.are(31, "nobody halts an hour", explained(y), 0, -1, 0, 0);
        y.clear();
        y.lay(0, 0);
        Checks.are(31, "nobody halts none", explained(y), 36, 0, 0, 0);
    }

    /** "there is no mirage in question" */
    private static void noMirageInQuestion() {
        GrievingCamels x = Checks.in("place 3;camel 0;camel 0;law many*20;");
        x.lay(3, 20);
        Checks.are(31, "one of two", explained(x), 10, 1, 0, 0);
        x.lay(1, 20);
        Checks.are(31, "that one", explained(x), 5, 6, 1, 2);
    }

    /** "by number in a row" */
    private static void linesByNumberInARow() {
        GrievingCamels x = Checks.in("camel 0;camel 0;camel 0;law first*10+last;");
        x.string(3, 210);
        x.lay(7, 12);
        // 1 2 0, 0 1 2, and 1 and 2 with 0 to 5 between.
        Checks.are(31, "1 ahead of 2", explained(x), 8, 8, 0, 0);
        x.lay(3, 12);
        Checks.are(31, "of the first two", explained(x), 2, 36 + 12, 3, 0);
        x.lay(4, 0);
        Checks.are(31, "the third has none", explained(x), 1, 36 + 12, 3, 4);
    }

    /** Lines by E: "0, if no CAMEL has any", cut at 0 and at 99. */
    private static void linesByLaws() {
        GrievingCamels x = Checks.in("camel 0;camel 0;law 7;");
        x.lay(3, 7);
        Checks.are(31, "any", explained(x), 35, 1, 0, 0);
        x.lay(1, 0);
        Checks.are(31, "not camel 0", explained(x), 5, 1, 2, 1);
        GrievingCamels low = Checks.in("camel 0;law most-3;");
        low.lay(1, 0);
        Checks.are(31, "0 to 3 halt none", explained(low), 4, 0, 0, 0);
        low.lay(1, 1);
        Checks.is(31, "contrary", low.explain(0), 0);
        GrievingCamels high = Checks.in("camel 0;law most+96;");
        high.lay(1, 99);
        Checks.are(31, "3 to 5 halt 99", explained(high), 3, 3, 1, 0);
        high.clear();
        high.lay(1, 98);
        Checks.are(31, "2 halts 98", explained(high), 1, 2, 1, 0);
    }

    /** "half (cut) of the greatest in the other row" */
    private static void comparedHalfCut() {
        int[] griefs = {0, 1, 2, 3, 4, 19, 20};
        for (int grief : griefs) {
            GrievingCamels x = Checks.in("place 0;camel 0;camel 0;");
            if (grief > 0) {
                x.hurt(0, 0, grief);
            }
            Checks.are(32, "half of " + grief, new long[] {x.compared(1, 2), x.compared(2, 1)}, grief / 2, grief / 2);
            x.hurt(0, 1, 2);
            Checks.is(32, "with 2 against " + grief, x.compared(1, 2), grief / 2 > 2 ? grief / 2 - 2 : grief == 0 ? 1 : 0);
        }
    }

    /** "the greater of its GRIEF and half ..(as they met)" */
    private static void comparedAsTheyMet() {
        GrievingCamels x = Checks.in("place 0;camel 0;camel 0;camel 0;camel 0;hurt 0 0 20;hurt 1 0 4;hurt 2 0 3;");
        // Camels 2 and 3 would have 10: 7 and 10 more; half of 3 is less than what 0 and 1 have.
        Checks.are(32, "all", new long[] {x.compared(3, 12), x.compared(12, 3)}, 17, 17);
        Checks.is(32, "0 against the others", x.compared(1, 14), 6 + 7 + 10);
        Checks.is(32, "the greatest alone counts", x.compared(6, 8), 2);
        Checks.is(32, "each of a row by the other row alone", x.compared(2, 4), 0);
        Checks.are(32, "griefs, depths stay", new long[] {x.grief(0, 3, 0), x.grief(0, 3, 1), x.grief(0, 2, 0)}, 0, 0, 3);
        x.string(1, 3);
        Checks.is(32, "whatever the string", x.compared(3, 12), 17);
    }

    /** "PLACE by PLACE" */
    private static void comparedInAllPlaces() {
        GrievingCamels x = Checks.in("place 0;".repeat(9) + "place 3;" + "camel 0;".repeat(8));
        x.hurt(0, 0, 6);
        x.hurt(9, 7, 8);
        x.hurt(4, 7, 3);
        Checks.is(32, "3 in place 0, 4 in place 9, 1 in place 4", x.compared(1, 128), 8);
        Checks.is(32, "by four each", x.compared(15, 240), 4 * 3 + 4 * 4 + 4);
    }

    /** "IllegalArgumentException: bits of no CAMELS, or one in both." */
    private static void comparedWithNone() {
        GrievingCamels x = Checks.in("place 0;camel 0;camel 0;camel 0;hurt 0 0 9;");
        Checks.are(32, "none", new long[] {x.compared(0, 0), x.compared(7, 0), x.compared(0, 7), x.compared(1, 6)}, 0, 0, 0, 8);
        int[][] bad = {{1, 1}, {3, 2}, {7, 4}, {7, 7}, {8, 1}, {1, 8}, {9, 2}, {-1, 0}, {0, -1}, {MIN, 1}, {1, MIN}, {MAX, 0}};
        for (int[] each : bad) {
            Checks.argument(32, each[0] + " and " + each[1], () -> x.compared(each[0], each[1]));
        }
        Checks.is(52, "refused", x.status(2), bad.length);
    }
}
