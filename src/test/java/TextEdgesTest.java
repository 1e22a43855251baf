/**
 * The sentences of the document that name an edge of a text (promises 2 to 4 and 36, and the terms
 * ahead of them): each with a test at the edge, and one on either side of it.
 */
public final class TextEdgesTest {
    private static final String TWO = "place 0;place 0;";
    private static final String CAMELS = "camel 1;camel 2;";

    public static void main(String[] args) {
        tapeOf600Bytes();
        highestByteFirst();
        landOf600Bytes();
        firstBytesOfTheTape();
        sixtyClauses();
        tenPlaces();
        kindsOfPlaces();
        eightCamels();
        prices();
        hoursOfRoads();
        endsOfRoads();
        theLastRoadCounts();
        hoursOfHurts();
        hurtsAddUp();
        whoIsHurtWhere();
        calves();
        quarrels();
        toldAhead();
        numbersOfLaws();
        bracketsOfLaws();
        theLastLawCounts();
        digitsAsManyAsStandThere();
        lettersAsManyAsStandThere();
        blanks();
        signsNextToDigitsAndLetters();
        endsTooEarly();
        endsWithinTheTape();
        theFirstFromTheLeft();
        ofOneTheLeast();
        theLatestText();
        planOf200Bytes();
        firstBytesAsPlan();
        hoursOfWaits();
        timesOfAgain();
        numbersOfTests();
        placesAndCamelsOfPlans();
        sixBlocks();
        stepsInBlocks();
        perhapsElse();
        plansInTurn();
        plansThatEndTooEarly();
        Checks.end("TextEdgesTest");
    }

    private static void good(String text, int camels) {
        GrievingCamels x = new GrievingCamels();
        Checks.is(3, text, Checks.land(x, text), camels);
        Checks.is(4, "fault of " + text, x.fault(), -1);
        Checks.is(3, "the tape behind " + text, x.count(1), 0);
    }

    private static void bad(String text, int kind, int where) {
        GrievingCamels x = new GrievingCamels();
        Checks.is(3, text, Checks.land(x, text), kind - 10);
        Checks.is(4, "fault of " + text, x.fault(), where);
        Checks.is(3, "the tape behind " + text, x.count(1), 0);
        Checks.is(3, "places behind " + text, x.told(0), 0);
        Checks.is(3, "camels behind " + text, x.told(1), 0);
    }

    /** "NONE, doing nothing, if there would be more than 600." */
    private static void tapeOf600Bytes() {
        GrievingCamels x = new GrievingCamels();
        String text = "place 3;" + " ".repeat(584) + "camel 7;";
        Checks.is(2, "580 bytes", Checks.feed(x, text.substring(0, 580)), 580);
        Checks.is(2, "600 bytes", Checks.feed(x, text.substring(580)), 600);
        Checks.is(2, "620 bytes", x.feed(0, 0, 0, 0, 0), -1);
        Checks.is(2, "once more", x.feed(-1, -1, -1, -1, -1), -1);
        Checks.is(53, "bytes of the tape", x.count(1), 600);
        Checks.is(2, "nothing was done", x.land(600), 1);
        Checks.are(2, "by the first and the last bytes", new long[] {x.place(0), x.camel(0, 0)}, 3, 7);
        Checks.is(2, "the first behind it", x.feed(0, 0, 0, 0, 0), 20);
    }

    /** "Twenty bytes come on the TAPE, of each number the highest first". */
    private static void highestByteFirst() {
        String text = "place 0;camel 1;    ";
        for (int at = 0; at < 20; at++) {
            for (int sign : new int[] {127, 128, 255}) {
                int[] n = new int[5];
                for (int i = 0; i < 20; i++) {
                    n[i / 4] = n[i / 4] << 8 | (i == at ? sign : text.charAt(i));
                }
                GrievingCamels x = new GrievingCamels();
                Checks.is(2, "feed", x.feed(n[0], n[1], n[2], n[3], n[4]), 20);
                Checks.is(2, "byte " + at + " is " + sign, x.land(20), -9);
                int word = at < 5 ? 0 : at > 7 && at < 13 ? 8 : at;
                Checks.is(2, "where " + at + " is", x.fault(), word);
            }
        }
    }

    /** "A LAND is a text of up to 600 bytes". */
    private static void landOf600Bytes() {
        String text = " ".repeat(592) + "place 2;";
        GrievingCamels x = new GrievingCamels();
        Checks.feed(x, text);
        Checks.argument(3, "601 bytes", () -> x.land(601));
        Checks.is(3, "600 bytes", x.land(600), 0);
        Checks.are(3, "its last clause", new long[] {x.told(0), x.place(0), x.fault()}, 1, 2, -1);
        GrievingCamels y = new GrievingCamels();
        Checks.feed(y, text);
        Checks.is(3, "599 bytes", y.land(599), -9);
        Checks.is(4, "at the length", y.fault(), 599);
        bad(" ".repeat(599) + "p", 1, 599);
        String law = "law " + "(".repeat(6) + "1" + ")".repeat(6);
        good(law + "+1".repeat(291) + ";", 0);
        good(law + "+1".repeat(290) + ";  ", 0);
        bad(law + "+1".repeat(290) + "; ;", 1, 599);
        bad(law + "+1".repeat(291) + " ", 1, 600);
    }

    /** "IllegalArgumentException: n is not 0 to the TAPE's bytes (it stays)"; "(empty then)". */
    private static void firstBytesOfTheTape() {
        GrievingCamels x = new GrievingCamels();
        Checks.argument(3, "one byte of none", () -> x.land(1));
        Checks.argument(3, "less than none", () -> x.land(-1));
        Checks.is(3, "none of none", x.land(0), 0);
        Checks.feed(x, "place 1;camel 2;7777");
        Checks.argument(3, "21 of 20", () -> x.land(21));
        Checks.argument(3, "-1 of 20", () -> x.land(-1));
        Checks.argument(3, "the greatest of 20", () -> x.land(Integer.MAX_VALUE));
        Checks.argument(3, "the least of 20", () -> x.land(Integer.MIN_VALUE));
        Checks.are(3, "it stays", new long[] {x.count(1), x.fault(), x.told(0), x.status(2)}, 20, -1, 0, 6);
        Checks.is(3, "16 of 20", x.land(16), 1);
        Checks.is(3, "empty then", x.count(1), 0);
        Checks.argument(3, "the rest is gone", () -> x.land(1));
        Checks.feed(x, "place 1;camel 2;   9");
        Checks.is(3, "20 of 20", x.land(20), -9);
        Checks.are(3, "empty behind a fault, too", new long[] {x.count(1), x.fault(), x.told(0)}, 0, 19, 1);
        Checks.feed(x, "place 1;camel 2;   9");
        Checks.is(3, "19 of 20", x.land(19), 1);
        Checks.feed(x, "place 1;camel 2;   9");
        Checks.is(3, "1 of 20", x.land(1), -9);
        Checks.is(3, "a letter is no word", x.fault(), 0);
        Checks.feed(x, "place 1;camel 2;   9");
        Checks.is(3, "0 of 20", x.land(0), 0);
        Checks.are(3, "a land without clauses", new long[] {x.count(1), x.told(0), x.told(1), x.fault()}, 0, 0, 0, -1);
    }

    /** "{ CLAUSE ";" }, at most 60"; "3 a CLAUSE .. too many (at its word)". */
    private static void sixtyClauses() {
        String start = TWO + CAMELS;
        String laws = "law 1;".repeat(55);
        good(start + laws, 2);
        good(start + laws + "law 2;", 2);
        good(start + laws + "law 2;   ", 2);
        String full = start + laws + "law 2;";
        for (String one : new String[] {"place 0;", "road 0 1 1;", "camel 0;", "hurt 0 0 1;", "calf 0 1;",
            "quarrel 0 1;", "law 1;", "law", "road x", "place 9;"}) {
            bad(full + one, 3, full.length());
            bad(full + "   " + one, 3, full.length() + 3);
        }
        good(start + laws + "quarrel 0 1;", 2);
        good(start + laws + "hurt 0 0 1;", 2);
        bad(start + laws + "law 100;law 1;", 2, full.length() - 2);
    }

    /** "PLACES, numbered from 0 on, 10 at most"; "3 a .. PLACE .. too many (at its word)". */
    private static void tenPlaces() {
        good("place 0;".repeat(9), 0);
        good("place 0;".repeat(10), 0);
        bad("place 0;".repeat(11), 3, 80);
        bad("place 0;".repeat(10) + "  place;", 3, 82);
        bad("place 0;".repeat(10) + "camel 1;place 4;", 3, 88);
        GrievingCamels x = Checks.in("place 0;".repeat(9) + "place 3;road 9 8 5;");
        Checks.are(6, "places 8 and 9", new long[] {x.place(8), x.place(9), x.road(8, 9), x.told(0)}, 0, 3, 5, 10);
        Checks.index(6, "place 10", () -> x.place(10));
        Checks.index(6, "place -1", () -> x.place(-1));
        GrievingCamels y = Checks.in("place 0;".repeat(9));
        Checks.is(6, "place 8 of nine", y.place(8), 0);
        Checks.index(6, "place 9 of nine", () -> y.place(9));
    }

    /** "K: 0 plain, 1 fodder, 2 salt, 3 a mirage". */
    private static void kindsOfPlaces() {
        for (int k = 0; k <= 3; k++) {
            good("place " + k + ";", 0);
            Checks.is(6, "kind " + k, Checks.in("place 1;place " + k + ";").place(1), k);
        }
        bad("place 4;", 2, 6);
        bad("place 0;place 10;", 2, 14);
        bad("place -1;", 1, 6);
    }

    /** "CAMELS likewise, 8"; "3 a .. CAMEL too many (at its word)". */
    private static void eightCamels() {
        good("camel 0;".repeat(7), 7);
        good("camel 0;".repeat(8), 8);
        bad("camel 0;".repeat(9), 3, 64);
        bad("camel 0;".repeat(8) + " camel 100;", 3, 65);
        bad("camel 0;".repeat(8) + "place 1;camel;", 3, 72);
        GrievingCamels x = Checks.in("camel 0;".repeat(7) + "camel 9;calf 7 0;");
        Checks.are(8, "camels 6 and 7", new long[] {x.camel(6, 0), x.camel(7, 0), x.camel(7, 1), x.told(2)}, 0, 9, 0, 8);
        Checks.element(8, "camel 8", () -> x.camel(8, 0));
        Checks.element(8, "camel -1", () -> x.camel(-1, 0));
    }

    /** "price G, 0 to 99". */
    private static void prices() {
        for (int g : new int[] {0, 1, 98, 99}) {
            good("camel " + g + ";", 1);
            Checks.is(8, "price " + g, Checks.in("camel 50;camel " + g + ";").camel(1, 0), g);
        }
        bad("camel 100;", 2, 6);
        bad("camel 1;camel 990;", 2, 14);
    }

    /** "H hours, 1 to 24". */
    private static void hoursOfRoads() {
        bad(TWO + "road 0 1 0;", 2, 25);
        for (int h : new int[] {1, 2, 23, 24}) {
            good(TWO + "road 0 1 " + h + ";", 0);
            Checks.is(7, "a road of " + h, Checks.in(TWO + "road 0 1 " + h + ";").road(0, 1), h);
        }
        bad(TWO + "road 0 1 25;", 2, 25);
        bad(TWO + "road 0 1 240;", 2, 25);
    }

    /** "A not B"; a road between PLACES that were told. */
    private static void endsOfRoads() {
        String three = TWO + "place 0;";
        good(three + "road 2 0 1;", 0);
        good(three + "road 0 2 1;", 0);
        good(three + "road 1 2 1;", 0);
        bad(three + "road 3 0 1;", 2, 29);
        bad(three + "road 0 3 1;", 2, 31);
        for (int i = 0; i < 3; i++) {
            bad(three + "road " + i + " " + i + " 1;", 2, 31);
        }
        bad("road 0 0 1;", 2, 5);
        bad("place 0;road 0 0 1;", 2, 15);
    }

    /** "both ways, .. the last counts". */
    private static void theLastRoadCounts() {
        GrievingCamels x = Checks.in(TWO + "place 0;road 0 1 5;road 1 0 3;road 1 2 4;");
        Checks.are(7, "both ways", new long[] {x.road(0, 1), x.road(1, 0), x.road(1, 2), x.road(2, 1), x.road(0, 2)},
                3, 3, 4, 4, -1);
        GrievingCamels y = Checks.in(TWO + "road 1 0 3;road 0 1 5;road 0 1 6;");
        Checks.are(7, "the last of three", new long[] {y.road(0, 1), y.road(1, 0)}, 6, 6);
        Checks.are(7, "no road to itself", new long[] {y.road(0, 0), y.road(1, 1)}, -1, -1);
    }

    /** "for H hours, 1 to 20". */
    private static void hoursOfHurts() {
        bad("place 0;camel 0;hurt 0 0 0;", 2, 25);
        for (int h : new int[] {1, 2, 19, 20}) {
            GrievingCamels x = Checks.in("place 0;camel 0;hurt 0 0 " + h + ";");
            Checks.are(9, "hurt for " + h, new long[] {x.grief(0, 0, 0), x.grief(0, 0, 1)}, h, h);
        }
        bad("place 0;camel 0;hurt 0 0 21;", 2, 25);
        bad("place 0;camel 0;hurt 0 0 200;", 2, 25);
    }

    /** "more than once: they add up, 20 at most, what is more is not". */
    private static void hurtsAddUp() {
        int[][] sums = {{9, 10, 19}, {10, 10, 20}, {10, 11, 20}, {20, 1, 20}, {20, 20, 20}, {1, 1, 2}, {1, 20, 20}};
        for (int[] sum : sums) {
            GrievingCamels x = Checks.in("place 0;camel 0;hurt 0 0 " + sum[0] + ";law 1;hurt 0 0 " + sum[1] + ";");
            Checks.are(9, sum[0] + " and " + sum[1], new long[] {x.grief(0, 0, 0), x.grief(0, 0, 1)}, sum[2], sum[2]);
        }
        GrievingCamels x = Checks.in(TWO + CAMELS + "hurt 0 0 7;hurt 0 1 3;hurt 1 0 2;hurt 0 0 7;hurt 0 0 7;");
        Checks.are(9, "each by itself", new long[] {x.grief(0, 0, 0), x.grief(1, 0, 0), x.grief(0, 1, 0),
            x.grief(1, 1, 0)}, 20, 3, 2, 0);
    }

    /** "CAMEL C was hurt in PLACE P": the camel is told first. */
    private static void whoIsHurtWhere() {
        String land = TWO + "camel 0;camel 0;camel 0;";
        good(land + "hurt 2 1 1;", 3);
        bad(land + "hurt 3 1 1;", 2, 45);
        bad(land + "hurt 1 2 1;", 2, 47);
        GrievingCamels x = Checks.in(land + "hurt 2 0 4;hurt 0 1 5;");
        Checks.are(9, "who and where", new long[] {x.grief(0, 2, 0), x.grief(1, 0, 0), x.grief(0, 1, 0)}, 4, 5, 0);
    }

    /** "C is the calf of M, M not C; the last counts". */
    private static void calves() {
        String three = "camel 0;camel 0;camel 0;";
        good(three + "calf 2 1;", 3);
        good(three + "calf 0 2;", 3);
        bad(three + "calf 3 0;", 2, 29);
        bad(three + "calf 0 3;", 2, 31);
        for (int i = 0; i < 3; i++) {
            bad(three + "calf " + i + " " + i + ";", 2, 31);
        }
        GrievingCamels x = Checks.in(three + "calf 1 0;calf 1 2;calf 2 1;");
        Checks.are(8, "mothers", new long[] {x.camel(0, 1), x.camel(1, 1), x.camel(2, 1)}, -1, 2, 1);
    }

    /** "CAMELS C and D, unlike, are not to be next to one another". */
    private static void quarrels() {
        String three = "camel 0;camel 0;camel 0;";
        good(three + "quarrel 2 1;", 3);
        bad(three + "quarrel 3 0;", 2, 32);
        bad(three + "quarrel 0 3;", 2, 34);
        for (int i = 0; i < 3; i++) {
            bad(three + "quarrel " + i + " " + i + ";", 2, 34);
        }
        GrievingCamels x = Checks.in(three + "quarrel 2 1;quarrel 0 1;");
        for (int i = 0; i < 3; i++) {
            for (int k = 0; k < 3; k++) {
                int one = i;
                int other = k;
                if (i != k) {
                    Checks.is(46, i + " and " + k, x.quarrel(one, other) ? 1 : 0, i == 1 || k == 1 ? 1 : 0);
                } else {
                    Checks.argument(46, "one camel", () -> x.quarrel(one, other) ? 1 : 0);
                }
            }
        }
    }

    /** "C, P, A, B, M: told ahead." */
    private static void toldAhead() {
        good("place 0;camel 0;hurt 0 0 1;place 0;camel 0;hurt 1 1 1;road 1 0 1;calf 1 0;", 2);
        bad("place 0;road 0 1 1;place 0;", 2, 15);
        bad("place 0;road 1 0 1;place 0;", 2, 13);
        bad("place 0;camel 0;hurt 1 0 1;camel 0;", 2, 21);
        bad("place 0;camel 0;hurt 0 1 1;place 0;", 2, 23);
        bad("camel 0;calf 1 0;camel 0;", 2, 13);
        bad("camel 0;calf 0 1;camel 0;", 2, 15);
        bad("camel 0;quarrel 1 0;camel 0;", 2, 16);
        // Nothing is told by a land before this one.
        GrievingCamels x = Checks.in(TWO + CAMELS);
        Checks.is(3, "no place is told", Checks.land(x, "road 0 1 1;"), -8);
        Checks.is(3, "no camel is told", Checks.land(x, "calf 0 1;"), -8);
        Checks.is(3, "all stays", x.told(0) * 10 + x.told(1), 22);
    }

    /** "N (0 to 99)". */
    private static void numbersOfLaws() {
        for (int n : new int[] {0, 1, 98, 99}) {
            GrievingCamels x = Checks.in("place 0;camel 0;hurt 0 0 1;law " + n + ";");
            Checks.is(14, "law " + n, x.halt(0), n);
        }
        bad("law 100;", 2, 4);
        bad("law 99+100;", 2, 7);
        bad("law (1*100);", 2, 7);
        bad("law 4294967297;", 2, 4);
    }

    /** "or a 7th of ( that is open at one time". */
    private static void bracketsOfLaws() {
        good("law (((((1)))));", 0);
        good("law ((((((1))))));", 0);
        bad("law (((((((1)))))));", 3, 10);
        good("law ((((((1))))))+((((((1))))))*((((((2))))))-((((((1)))))*1);", 0);
        good("law (((((1)+((1))))));law ((((((1))))));", 0);
        bad("law (((((1)+((1)+((1)))))));", 3, 18);
        good("law (((((1)+((1)+(1))))));", 0);
        bad("law 1;law ((((( (  ( x", 3, 19);
        bad("law ((((((", 1, 10);
        bad("law (((((((", 3, 10);
        GrievingCamels x = Checks.in("place 0;camel 0;hurt 0 0 1;law 50-((((((7-2)*3)-1)*2)-4)-(((((3))))));");
        Checks.is(14, "by six open at one time", x.halt(0), 50 - (((7 - 2) * 3 - 1) * 2 - 4 - 3));
    }

    /** "the last counts; most without". */
    private static void theLastLawCounts() {
        String land = "place 0;camel 0;camel 0;camel 0;hurt 0 0 3;hurt 1 0 9;hurt 2 0 4;";
        Checks.is(14, "most without a law", Checks.in(land).halt(0), 9);
        Checks.is(14, "one law", Checks.in(land + "law first;").halt(0), 3);
        Checks.is(14, "the last of two", Checks.in(land + "law first;law sum;").halt(0), 16);
        Checks.is(14, "the last of three", Checks.in("law first;" + land + "law sum;law last;").halt(0), 4);
        GrievingCamels x = Checks.in(land + "law last;");
        Checks.is(3, "a land without a law behind one with", Checks.land(x, land), 3);
        Checks.is(14, "most again", x.halt(0), 9);
    }

    /** "Numbers: digits, as many as stand there". */
    private static void digitsAsManyAsStandThere() {
        good("place 0000000000000000000000000000003;", 0);
        good("camel 00;camel 099;", 2);
        bad("place 04;", 2, 6);
        bad("place 4294967296;", 2, 6);
        bad("place 4294967297;", 2, 6);
        bad("place 18446744073709551616;", 2, 6);
        bad("camel 100000000000000000000000000000000000001;", 2, 6);
        bad("camel 1 0;", 1, 8);
        bad(TWO + "road 00 1;", 1, 25);
        bad(TWO + "road 01 1;", 2, 24);
        good(TWO + "road 00 01 024;", 0);
    }

    /** "WORDS: small letters, as many as stand there". */
    private static void lettersAsManyAsStandThere() {
        good("place0;camel9;place1;hurt0 0 9;", 1);
        bad("placee 0;", 1, 0);
        bad("placecamel 0;", 1, 0);
        bad("plac 0;", 1, 0);
        bad("pla ce 0;", 1, 0);
        bad("p", 1, 0);
        for (String word : new String[] {"place", "road", "camel", "hurt", "calf", "quarrel", "law"}) {
            bad(word + "a 0;", 1, 0);
            bad(word + "z 0;", 1, 0);
            bad("a" + word + " 0;", 1, 0);
            bad("x" + word.substring(1) + " 0;", 1, 0);
            bad(word.substring(0, word.length() - 1) + "z 0;", 1, 0);
            bad(word.substring(0, word.length() - 1) + " 0;", 1, 0);
        }
        for (String word : new String[] {"most", "sum", "first", "last", "many"}) {
            bad("law " + word + "z;", 1, 4);
            bad("law x" + word.substring(1) + ";", 1, 4);
            good("law " + word + ";", 0);
        }
        bad("Place 0;", 1, 0);
        bad("placE 0;", 1, 0);
        bad("placeE 0;", 1, 5);
        bad("place 0;lawfirst;", 1, 8);
        bad("law firsts;", 1, 4);
        bad("law first last;", 1, 10);
        good("law(first)*last+many;", 0);
        good("law99;", 0);
    }

    /** "blanks (32) may stand ahead of all these, and at the end". */
    private static void blanks() {
        good("   ", 0);
        good("  place  3  ;  camel  1  ;  hurt  0  0  1  ;  law  (  first  +  2  )  *  3  -  1  ;  ", 1);
        good("place0;place0;road0 1 5;camel0;camel0;calf0 1;quarrel1 0;law(first+2)*3;", 2);
        for (char other : new char[] {0, 9, 10, 13, 31, 33, 160, 255}) {
            bad("place" + other + "0;", 1, 5);
            bad("place 0" + other + ";", 1, 7);
            bad("place 0;" + other, 1, 8);
            bad(other + "place 0;", 1, 0);
        }
        bad("place 0 0;", 1, 8);
        bad("place 0; ;", 1, 9);
    }

    private static void signsNextToDigitsAndLetters() {
        for (char other : new char[] {'/', ':', '`', '{', '@', '[', 'A', 'Z'}) {
            bad("place " + other + ";", 1, 6);
            bad("place 0" + other + ";", 1, 7);
            bad(other + " 0;", 1, 0);
            bad("place" + other + " 0;", 1, 5);
        }
        for (char other : new char[] {',', '.', '/', '<', '=', '>', ':', '\'', '&', '[', ']'}) {
            bad("law 1" + other + "2;", 1, 5);
            bad("law " + other + "2;", 1, 4);
        }
        bad("place 0,", 1, 7);
        bad("place 0:", 1, 7);
        bad("place 0<", 1, 7);
        good("law 1+2-3*4;", 0);
    }

    /** "1 what can't stand there (at the length, if the text ends too early)". */
    private static void endsTooEarly() {
        String[] ends = {"road", "road ", "road 0", "road 0 ", "road 0 1", "road 0 1 ", "road 0 1 1", "road 0 1 12",
            "road 0 1 12 ", "place", "place 0", "camel", "camel 9", "hurt", "hurt 1", "hurt 1 0", "hurt 1 0 1",
            "calf", "calf 0", "calf 0 1", "quarrel", "quarrel 0", "quarrel 0 1", "law", "law 1", "law 1+", "law 1-",
            "law 1*", "law (", "law (1", "law (1)", "law first", "law ((1)", "law   "};
        for (String end : ends) {
            bad(TWO + CAMELS + end, 1, 32 + end.length());
            bad(TWO + CAMELS + "  " + end + "   ", 1, 32 + end.length() + 5);
            // The tape is full: behind this end there is no byte at all.
            bad(TWO + CAMELS + " ".repeat(568 - end.length()) + end, 1, 600);
        }
        for (String end : new String[] {"road 0 1 12;", "road 0 1 12;  ", "", "  ", "calf 0 1;", "law (1);"}) {
            good(TWO + CAMELS + end, 2);
        }
    }

    /** The text ends with the first n bytes, whatever stands on the TAPE behind them. */
    private static void endsWithinTheTape() {
        String land = "place 0;place 1;camel 10;camel 20;hurt 1 0 12;law (first+12)*((3));";
        String plan = "wait 12;if grief 1+12<345[feed;]else[go 1;];again 12[feed;];";
        for (int n = 0; n <= Math.max(land.length(), plan.length()); n++) {
            int length = n;
            if (n <= land.length()) {
                GrievingCamels x = new GrievingCamels();
                GrievingCamels y = new GrievingCamels();
                Checks.feed(x, land);
                Checks.is(3, "cut at " + n, x.land(length), Checks.land(y, land.substring(0, n)));
                Checks.is(4, "fault of the cut at " + n, x.fault(), y.fault());
            }
            if (n <= plan.length()) {
                GrievingCamels x = Checks.in(TWO + CAMELS);
                GrievingCamels y = Checks.in(TWO + CAMELS);
                Checks.feed(x, plan);
                Checks.is(36, "cut at " + n, x.plan(length), Checks.plan(y, plan.substring(0, n)));
                Checks.is(4, "fault of the cut at " + n, x.fault(), y.fault());
            }
        }
        String[] texts = {"law ", "law 1", "law (1", "place ", "place 1", "plac", "camel 9", "law 1+"};
        String[] behind = {"(1);", "2;", ");", "1;", ";", "e 1;", "9;", "1;"};
        for (int i = 0; i < texts.length; i++) {
            GrievingCamels x = new GrievingCamels();
            Checks.feed(x, texts[i] + behind[i]);
            Checks.is(3, texts[i] + " ahead of " + behind[i], x.land(texts[i].length()), -9);
            Checks.is(4, "where", x.fault(), texts[i].equals("plac") ? 0 : texts[i].length());
        }
        GrievingCamels x = new GrievingCamels();
        Checks.feed(x, "place 12;");
        Checks.is(3, "1 is a kind, 12 is none", x.land(7), -9);
        Checks.is(4, "at the length", x.fault(), 7);
        Checks.feed(x, "place 12;");
        Checks.is(3, "12 is none", x.land(9), -8);
    }

    /** "FAULTS, the first from the left, at its first byte". */
    private static void theFirstFromTheLeft() {
        bad("place 4;plaice 0;", 2, 6);
        bad("plaice 4;", 1, 0);
        bad("place 4", 2, 6);
        bad("place 400 x", 2, 6);
        bad("road 7 7 99;", 2, 5);
        bad(TWO + "road 1 1 99;", 2, 23);
        bad(TWO + "road 0 1 99", 2, 25);
        bad("law 100+(((((((", 2, 4);
        bad("law (((((((100", 3, 10);
        bad("law ((((((100", 2, 10);
        bad("camel 0;".repeat(8) + "camel 100;plaice", 3, 64);
        bad("camel 0;".repeat(7) + "camel 100;camel 0;", 2, 62);
    }

    /** "of one the least": what can't stand there goes ahead of what is too much. */
    private static void ofOneTheLeast() {
        bad("law 1;".repeat(60) + "lax 1;", 1, 360);
        bad("law 1;".repeat(60) + "1", 1, 360);
        bad("law 1;".repeat(60) + ";", 1, 360);
        bad("law 1;".repeat(60) + "(", 1, 360);
        bad("place 0;".repeat(10) + "places 0;", 1, 80);
        bad("camel 0;".repeat(8) + "came 0;", 1, 64);
        bad("law ((((((1(", 1, 11);
        bad("law ((((((first (", 1, 16);
        bad("place 0 77;", 1, 8);
        bad(TWO + "road 0 1 1 99;", 1, 27);
    }

    /** "The place of the FAULT of the latest text; NONE without." */
    private static void theLatestText() {
        GrievingCamels x = new GrievingCamels();
        Checks.is(4, "no text", x.fault(), -1);
        Checks.land(x, "place 0;x");
        Checks.is(4, "a bad land", x.fault(), 8);
        Checks.argument(4, "a refused one is no text", () -> x.land(99));
        Checks.argument(4, "a refused plan is no text", () -> x.plan(99));
        Checks.feed(x, "place 1;");
        Checks.is(4, "it is so yet", x.fault(), 8);
        x.plan(0);
        Checks.is(4, "a text of no bytes", x.fault(), -1);
        Checks.is(4, "a good plan", Checks.plan(x, "wait 1;"), 1);
        Checks.is(4, "the latest text is a plan", x.fault(), -1);
        Checks.plan(x, "wait 1;feed;y");
        Checks.is(4, "a bad plan", x.fault(), 12);
        Checks.land(x, "place 0;");
        Checks.is(4, "a good land", x.fault(), -1);
        Checks.land(x, "x");
        Checks.is(4, "the first byte", x.fault(), 0);
        Checks.plan(x, " x");
        Checks.is(4, "another one", x.fault(), 1);
        x.image();
        x.restore();
        Checks.is(4, "no image keeps it", x.fault(), 1);
        Checks.is(3, "no bytes", x.land(0), 0);
        Checks.is(4, "without", x.fault(), -1);
    }

    private static void goodPlan(String text, int steps) {
        GrievingCamels x = Checks.in(TWO + CAMELS);
        Checks.is(36, text, Checks.plan(x, text), steps);
        Checks.are(36, "fault and tape behind " + text, new long[] {x.fault(), x.count(1)}, -1, 0);
    }

    private static void badPlan(String text, int kind, int where) {
        GrievingCamels x = Checks.in(TWO + CAMELS);
        Checks.is(36, "a plan ahead", Checks.plan(x, "wait 7;"), 1);
        Checks.is(36, text, Checks.plan(x, text), kind - 10);
        Checks.are(36, "fault and tape behind " + text, new long[] {x.fault(), x.count(1)}, where, 0);
        Checks.are(36, "the plan ahead of " + text, new long[] {x.run(0, 0), x.run(0, 3)}, 7, 1);
    }

    /** "A PLAN is a text of up to 200 bytes"; "(n to 200; empty then)". */
    private static void planOf200Bytes() {
        GrievingCamels x = Checks.in(TWO + CAMELS);
        String text = "wait 3;" + " ".repeat(186) + "wait 5;";
        Checks.feed(x, text + "wait 7;");
        Checks.argument(36, "201 of 220", () -> x.plan(201));
        Checks.argument(36, "220 of 220", () -> x.plan(220));
        Checks.are(36, "the tape stays", new long[] {x.count(1), x.run(0, 3), x.fault()}, 220, 0, -1);
        Checks.is(36, "200 of 220", x.plan(200), 2);
        Checks.are(36, "its steps, an empty tape", new long[] {x.run(0, 0), x.run(0, 3), x.count(1)}, 8, 2, 0);
        Checks.feed(x, text);
        Checks.is(36, "199 of 200", x.plan(199), -9);
        Checks.are(36, "at the length", new long[] {x.fault(), x.count(1), x.run(0, 0)}, 199, 0, 8);
        Checks.feed(x, text);
        Checks.argument(36, "201 of 200", () -> x.plan(201));
        Checks.is(36, "200 of 200", x.plan(200), 2);
        goodPlan("feed;".repeat(40), 40);
        goodPlan("go0;".repeat(50), 50);
        goodPlan("if 1=1" + "-1".repeat(95) + "[];", 1);
    }

    /** The first n bytes; "(it stays)". */
    private static void firstBytesAsPlan() {
        GrievingCamels x = Checks.in(TWO + CAMELS);
        Checks.argument(36, "one of none", () -> x.plan(1));
        Checks.argument(36, "less than none", () -> x.plan(-1));
        Checks.is(36, "none of none", x.plan(0), 0);
        Checks.feed(x, "wait 3;wait 5;    go");
        Checks.argument(36, "21 of 20", () -> x.plan(21));
        Checks.argument(36, "-1 of 20", () -> x.plan(-1));
        Checks.argument(36, "the greatest", () -> x.plan(Integer.MAX_VALUE));
        Checks.are(36, "all stays", new long[] {x.count(1), x.status(2), x.run(0, 3)}, 20, 5, 0);
        Checks.is(36, "18 of 20", x.plan(18), 2);
        Checks.are(36, "it runs", new long[] {x.run(0, 0), x.count(1)}, 8, 0);
        Checks.feed(x, "wait 3;wait 5;    go");
        Checks.is(36, "20 of 20", x.plan(20), -9);
        Checks.are(36, "the plan stays, the tape is empty", new long[] {x.run(0, 0), x.count(1), x.fault()}, 8, 0, 20);
        Checks.feed(x, "wait 3;wait 5;    go");
        Checks.is(36, "7 of 20", x.plan(7), 1);
        Checks.is(36, "the first step alone", x.run(0, 0), 3);
        Checks.is(36, "none at all", x.plan(0), 0);
        Checks.is(36, "no steps", x.run(0, 3), 0);
    }

    /** "wait" N (0 to 99 hours). */
    private static void hoursOfWaits() {
        for (int n : new int[] {0, 1, 98, 99}) {
            GrievingCamels x = Checks.in(TWO);
            Checks.is(36, "wait " + n, Checks.plan(x, "wait " + n + ";"), 1);
            Checks.is(37, "hours of wait " + n, x.run(0, 0), n);
        }
        badPlan("wait 100;", 2, 5);
        badPlan("wait -1;", 1, 5);
    }

    /** "again" N BLOCK (0 to 20 times). */
    private static void timesOfAgain() {
        for (int n : new int[] {0, 1, 19, 20}) {
            GrievingCamels x = Checks.in(TWO);
            Checks.is(36, "again " + n, Checks.plan(x, "again " + n + "[wait 2;];"), 2);
            Checks.are(37, "again " + n, new long[] {x.run(0, 0), x.run(0, 3)}, 2 * n, 1 + n);
        }
        badPlan("again 21[];", 2, 6);
        badPlan("again 200[];", 2, 6);
    }

    /** "V: N (0 to 999)". */
    private static void numbersOfTests() {
        for (int n : new int[] {0, 1, 998, 999}) {
            goodPlan("if " + n + "=" + n + "[];", 1);
            goodPlan("while 0+" + n + ">" + n + "-0[];", 1);
        }
        badPlan("if 1 2=3[];", 1, 5);
        badPlan("if here 2=3[];", 1, 8);
        badPlan("while 1[];", 1, 7);
        badPlan("while 1=[];", 1, 8);
        badPlan("while 1=2=3[];", 1, 9);
        badPlan("while <2[];", 1, 6);
        badPlan("while 1<=2[];", 1, 8);
        badPlan("while 1!2[];", 1, 7);
        badPlan("while 1*2<3[];", 1, 7);
        badPlan("while (1)<3[];", 1, 6);
        for (String word : new String[] {"here", "hours", "halt", "row", "lost", "steps", "grief 1", "grief1"}) {
            goodPlan("if " + word + "=0[];", 1);
            goodPlan("if 0=" + word + "[];", 1);
            badPlan("if x" + word + "=0[];", 1, 3);
            badPlan("if x" + word.substring(1) + "=0[];", 1, 3);
            badPlan("if 0=z[];", 1, 5);
        }
        badPlan("if heres=0[];", 1, 3);
        badPlan("if her=0[];", 1, 3);
        badPlan("if griefs 1=0[];", 1, 3);
        badPlan("if grief=0[];", 1, 8);
        badPlan("if 1000=1[];", 2, 3);
        badPlan("if 1=1000[];", 2, 5);
        badPlan("if 1+1000=1[];", 2, 5);
        badPlan("while 1<1-9990[];", 2, 10);
    }

    /** "P, C as in the LAND." */
    private static void placesAndCamelsOfPlans() {
        for (String word : new String[] {"go ", "drop ", "join ", "lead "}) {
            goodPlan(word + "0;", 1);
            goodPlan(word + "1;", 1);
            badPlan(word + "2;", 2, word.length());
            badPlan(word + ";", 1, word.length());
        }
        goodPlan("if grief 1=0[];", 1);
        badPlan("if grief 2=0[];", 2, 9);
        GrievingCamels x = new GrievingCamels();
        Checks.is(36, "no place 0", Checks.plan(x, "go 0;"), -8);
        Checks.is(36, "no camel 0", Checks.plan(x, "lead 0;"), -8);
        Checks.is(36, "no grief of camel 0", Checks.plan(x, "if grief 0=0[];"), -8);
        Checks.is(36, "where", x.fault(), 9);
        GrievingCamels y = Checks.in("place 0;".repeat(10) + "camel 0;".repeat(8));
        Checks.is(36, "the last ones", Checks.plan(y, "go 9;drop 7;join 7;lead 7;if grief 7=0[];"), 5);
        Checks.is(36, "place 10", Checks.plan(y, "go 10;"), -8);
        Checks.is(36, "camel 8", Checks.plan(y, "drop 8;"), -8);
    }

    /** "3 a 7th BLOCK open at one time (at its [)". */
    private static void sixBlocks() {
        String open = "again 1[";
        goodPlan(open.repeat(5) + "];".repeat(5), 5);
        goodPlan(open.repeat(6) + "];".repeat(6), 6);
        badPlan(open.repeat(7) + "];".repeat(7), 3, 55);
        badPlan(open.repeat(6) + "again 1  [", 3, 57);
        goodPlan(open.repeat(6) + "];feed;again 1[feed;];" + "];".repeat(5), 9);
        goodPlan(open.repeat(5) + "again 1[];again 1[];" + "];".repeat(5), 7);
        goodPlan(open.repeat(5) + "if 1=1[]else[];" + "];".repeat(5), 6);
        badPlan(open.repeat(6) + "if 1=1[", 3, 54);
        badPlan(open.repeat(5) + "if 1=1[]else[if 1=1[", 3, 59);
        badPlan(open.repeat(6) + "while 1=1[", 3, 57);
        badPlan(open.repeat(6) + "while 1000=1[", 2, 54);
        badPlan(open.repeat(6) + "feed[", 1, 52);
        badPlan(open.repeat(6), 1, 48);
        goodPlan(open.repeat(6) + "];".repeat(6) + open.repeat(6) + "];".repeat(6), 12);
    }

    /** "how many STEPS it has (also in BLOCKS)". */
    private static void stepsInBlocks() {
        goodPlan("", 0);
        goodPlan(" ", 0);
        goodPlan("feed;", 1);
        goodPlan("again 0[feed;feed;];", 3);
        goodPlan("if 1>2[feed;]else[feed;remind;];", 4);
        goodPlan("while 1>2[while 1>2[feed;];];feed;", 4);
    }

    /** "perhaps "else" BLOCK", behind an if alone. */
    private static void perhapsElse() {
        goodPlan("if 1=1[];", 1);
        goodPlan("if 1=1[] else [];", 1);
        badPlan("if 1=1[];else[];", 1, 9);
        badPlan("if 1=1[]els[];", 1, 8);
        badPlan("if 1=1[]elsee[];", 1, 8);
        badPlan("if 1=1[]else;", 1, 12);
        badPlan("if 1=1[]else feed;", 1, 13);
        badPlan("again 1[]else[];", 1, 9);
        badPlan("while 1=2[]else[];", 1, 11);
        badPlan("else[];", 1, 0);
    }

    /** A plan knows nothing of those before it, good or bad: however many there were. */
    private static void plansInTurn() {
        GrievingCamels x = Checks.in(TWO + CAMELS);
        for (int i = 0; i < 6; i++) {
            Checks.is(36, "a long test", Checks.plan(x, "if 1" + "+1".repeat(85) + "=86[wait 1;]else[wait 3;];"), 3);
            Checks.is(37, "it is so", x.run(0, 0), 1);
            Checks.is(36, "a number that is none", Checks.plan(x, "wait 100;"), -8);
            Checks.is(36, "no number", Checks.plan(x, "feed;"), 1);
            Checks.is(36, "a number that is none, again", Checks.plan(x, "feed;again 21[];"), -8);
            Checks.is(36, "no number, again", Checks.plan(x, "remind;feed;"), 2);
            Checks.is(36, "blocks without steps", Checks.plan(x, "if 1=1[]else[];if 1=2[]else[];again 2[];wait 5;"), 4);
            Checks.are(37, "they run", new long[] {x.run(0, 0), x.run(0, 3)}, 5, 4);
            Checks.is(36, "words that are none", Checks.plan(x, "feet;"), -9);
        }
        for (String word : new String[] {"go", "wait", "drop", "join", "lead"}) {
            badPlan("x" + word.substring(1) + " 1;", 1, 0);
            badPlan(word + "z 1;", 1, 0);
        }
        for (String word : new String[] {"feed", "remind"}) {
            badPlan("x" + word.substring(1) + ";", 1, 0);
            badPlan(word + "z;", 1, 0);
            badPlan(word + " 1;", 1, word.length() + 1);
        }
        badPlan("agains 1[];", 1, 0);
        badPlan("whiles 1=1[];", 1, 0);
        badPlan("ifs 1=1[];", 1, 0);
        badPlan("i 1=1[];", 1, 0);
        badPlan("feed;;", 1, 5);
        badPlan("feed;];", 1, 5);
        badPlan("again 1[;];", 1, 8);
        badPlan("again 1[feed];", 1, 12);
    }

    private static void plansThatEndTooEarly() {
        String[] ends = {"go", "go ", "go 1", "go 1 ", "wait", "wait 7", "feed", "remind", "drop", "drop 1", "join",
            "join 0", "lead", "lead 1", "again", "again 2", "again 2[", "again 2[feed", "again 2[feed;", "again 2[]",
            "while", "while 1", "while 1<", "while 1<2", "while 1<2[", "while 1<2[]", "if", "if grief", "if grief 1",
            "if here", "if here+", "if here+1=", "if 1=1[]", "if 1=1[]else", "if 1=1[]else[", "if 1=1[]else[]"};
        for (String end : ends) {
            badPlan("feed;" + end, 1, 5 + end.length());
            badPlan("feed; " + end + "  ", 1, 8 + end.length());
            badPlan(" ".repeat(200 - end.length()) + end, 1, 200);
        }
    }
}
