/** Promises 1 to 4 and 36: what stands in a text, and where its fault is. */
public final class TextsTest {
    private static final String TWO = "place 0;place 0;";

    public static void main(String[] args) {
        aNewObject();
        theTape();
        landsTold();
        landFaults();
        lawFaults();
        tooMany();
        whatALandTakesAway();
        plansTold();
        planFaults();
        whatAPlanLeaves();
        Checks.end("TextsTest");
    }

    private static void aNewObject() {
        GrievingCamels x = new GrievingCamels();
        for (int i = 0; i < 6; i++) {
            Checks.is(1, "told(" + i + ")", x.told(i), 0);
        }
        Checks.is(1, "fault", x.fault(), -1);
        Checks.are(1, "counts", new long[] {x.count(0), x.count(1), x.count(2), x.count(3)}, 0, 0, 0, -1);
        Checks.are(1, "status", new long[] {x.status(0), x.status(1), x.status(2), x.status(3)}, 0, 0, 0, 0);
        Checks.are(1, "nothing there", new long[] {x.row(0), x.at(0), x.undo(), x.restore(), x.begin(), x.shy(),
            x.clear(), x.widest(0), x.widest(1)}, -1, -1, -1, -1, -1, 0, 0, -1, -1);
        Checks.are(1, "explained", new long[] {x.explain(0), x.explain(1), x.explain(2), x.explain(3)}, 1, 0, 0, 0);
        Checks.index(1, "place(0)", () -> x.place(0));
        Checks.element(1, "camel(0, 0)", () -> x.camel(0, 0));
        Checks.state(1, "hours(0)", () -> x.hours(0));
        Checks.is(1, "NONE", GrievingCamels.NONE, -1);
    }

    private static void theTape() {
        GrievingCamels x = new GrievingCamels();
        for (int i = 1; i <= 30; i++) {
            Checks.is(2, "feed " + i, x.feed(i, 0, 0, 0, 0), 20 * i);
        }
        Checks.is(2, "feed over 600", x.feed(0, 0, 0, 0, 0), -1);
        Checks.is(2, "the tape", x.count(1), 600);
        GrievingCamels y = new GrievingCamels();
        // "plac" "e 3;", the highest byte first; what stands behind is not told.
        y.feed(0x706c6163, 0x6520333b, -1, -1, -1);
        Checks.is(2, "land of it", y.land(8), 0);
        Checks.is(2, "its place", y.place(0), 3);
        y.feed(0x706c6163, 0x6520313b, -1, 0, 0);
        Checks.is(2, "a byte of 255", y.land(9), -9);
        Checks.is(2, "its place in the text", y.fault(), 8);
        y.feed(0x706c6163, 0x65203000, 0x3b000000, 0, 0);
        Checks.is(2, "a byte of 0 is no blank", y.land(9), -9);
        Checks.is(2, "where that is", y.fault(), 7);
    }

    private static void good(String text, int camels) {
        GrievingCamels x = new GrievingCamels();
        Checks.is(3, text, Checks.land(x, text), camels);
        Checks.is(4, text, x.fault(), -1);
        Checks.is(3, "the tape behind " + text, x.count(1), 0);
    }

    private static void bad(String text, int answer, int where) {
        GrievingCamels x = new GrievingCamels();
        Checks.is(3, text, Checks.land(x, text), answer);
        Checks.is(4, text, x.fault(), where);
        Checks.is(3, "the tape behind " + text, x.count(1), 0);
    }

    private static void landsTold() {
        good("", 0);
        good("    ", 0);
        good("place 0;", 0);
        good("place0;camel9;", 1);
        good("  place   3 ;  camel  99 ; ", 1);
        good("place 0003;camel 00;camel 000000000000000000000001;", 2);
        good(TWO + "road 0 1 24;road 1 0 1;", 0);
        good("place 0;camel 1;hurt 0 0 20;hurt 0 0 20;hurt 0 0 1;", 1);
        good("camel 1;camel 1;calf 0 1;calf 1 0;calf 0 1;quarrel 0 1;quarrel 1 0;quarrel 0 1;", 2);
        good("law most;law sum;law first;law last;law many;law 0;law 99;", 0);
        good("law((((((1))))));law ( 1 ) * ( 2 ) - ( 3 ) + (4)*(5)*(6)*(7)*(8);", 0);
        good("law " + "1+".repeat(297) + "1;", 0);
        GrievingCamels x = new GrievingCamels();
        Checks.feed(x, "place 0;camel 1;camel 2;");
        Checks.argument(3, "land(-1)", () -> x.land(-1));
        Checks.argument(3, "land(41)", () -> x.land(41));
        Checks.argument(3, "land of the least number", () -> x.land(Integer.MIN_VALUE));
        Checks.is(3, "the tape stays", x.count(1), 40);
        Checks.is(3, "the first bytes alone", x.land(16), 1);
        Checks.is(3, "the rest is gone", x.count(1), 0);
        Checks.is(3, "land(0)", x.land(0), 0);
        Checks.is(3, "no place then", x.told(0), 0);
    }

    private static void landFaults() {
        bad("place 0", -9, 7);
        bad("place 0   ", -9, 10);
        bad("place", -9, 5);
        bad("pla", -9, 0);
        bad("place 4;", -8, 6);
        bad("  place   4;", -8, 10);
        bad("places 1;", -9, 0);
        bad("placea 1;", -9, 0);
        bad("placez 1;", -9, 0);
        bad("zlace 1;", -9, 0);
        bad("place x;", -9, 6);
        bad("place -1;", -9, 6);
        bad("place 99999999999999999999;", -8, 6);
        bad("place 4294967296;", -8, 6);
        bad("place 0 0;", -9, 8);
        bad("place 0:", -9, 7);
        bad("Place 0;", -9, 0);
        bad(";", -9, 0);
        bad("place 0;;", -9, 8);
        bad("place 0; 7", -9, 9);
        bad("place 0;plaice 0;", -9, 8);
        bad("road 0 1 1;", -8, 5);
        bad("place 0;road 0 1 1;", -8, 15);
        bad("place 0;road 1 0 1;", -8, 13);
        bad(TWO + "road 0 0 1;", -8, 23);
        bad(TWO + "road 1 1 1;", -8, 23);
        bad(TWO + "road 0 1 0;", -8, 25);
        bad(TWO + "road 0 1 25;", -8, 25);
        bad(TWO + "road 0 1;", -9, 24);
        bad(TWO + "road 01 1;", -8, 24);
        bad("camel 100;", -8, 6);
        bad("camel;", -9, 5);
        bad("camel 1;hurt 0 0 1;", -8, 15);
        bad("place 0;hurt 0 0 1;", -8, 13);
        bad("place 0;camel 1;hurt 1 0 1;", -8, 21);
        bad("place 0;camel 1;hurt 0 1 1;", -8, 23);
        bad("place 0;camel 1;hurt 0 0 0;", -8, 25);
        bad("place 0;camel 1;hurt 0 0 21;", -8, 25);
        bad("camel 1;calf 0 0;", -8, 15);
        bad("camel 1;calf 0 1;", -8, 15);
        bad("camel 1;calf 1 1;", -8, 13);
        bad("camel 1;quarrel 0 0;", -8, 18);
        bad("camel 1;quarrel 0 1;", -8, 18);
        bad("camel 1;camel 1;quarrel 1 1;", -8, 26);
        // What is told behind it does not help.
        bad("place 0;road 0 1 1;place 0;", -8, 15);
        bad("calf 0 1;camel 1;camel 1;", -8, 5);
    }

    private static void lawFaults() {
        bad("law;", -9, 3);
        bad("law", -9, 3);
        bad("law 100;", -8, 4);
        bad("law most+;", -9, 9);
        bad("law most+", -9, 9);
        bad("law (most;", -9, 9);
        bad("law mosts;", -9, 4);
        bad("lawmost;", -9, 0);
        bad("law grief;", -9, 4);
        bad("law 1 1;", -9, 6);
        bad("law ();", -9, 5);
        bad("law +1;", -9, 4);
        bad("law 1);", -9, 5);
        bad("law 1**2;", -9, 6);
        bad("law 1/2;", -9, 5);
        bad("law (1+(2*3);", -9, 12);
        bad("law (((((((1)))))));", -7, 10);
        bad("law (((((((", -7, 10);
        bad("law ((((((1+(1)))))));", -7, 12);
        bad("law ((((((1))))));law ((((((( ;", -7, 28);
    }

    private static void tooMany() {
        good("law 1;".repeat(60), 0);
        bad("law 1;".repeat(61), -7, 360);
        bad("law 1;".repeat(60) + "  law", -7, 362);
        bad("law 1;".repeat(60) + "lav 1;", -9, 360);
        bad("law 1;".repeat(60) + "1", -9, 360);
        bad("law 1;".repeat(59) + "place 4;" + "law 1;", -8, 360);
        good("place 0;".repeat(10), 0);
        bad("place 0;".repeat(11), -7, 80);
        bad("place 0;".repeat(10) + " place 9;", -7, 81);
        good("camel 0;".repeat(8), 8);
        bad("camel 0;".repeat(9), -7, 64);
        bad("camel 0;".repeat(8) + "camel", -7, 64);
    }

    private static void whatALandTakesAway() {
        GrievingCamels x = Checks.in(TWO + "road 0 1 2;camel 5;camel 6;hurt 0 1 3;");
        x.route(2, 1);
        x.string(1, 1);
        x.go();
        x.image();
        x.lay(1, 1);
        Checks.plan(x, "wait 7;");
        Checks.is(3, "a bad land", Checks.land(x, "place 0;x"), -9);
        Checks.is(4, "where it is bad", x.fault(), 8);
        long[] kept = {x.told(0), x.told(1), x.told(2), x.told(3), x.told(4), x.told(5), x.count(0), x.run(0, 0)};
        Checks.are(3, "all stays", kept, 2, 2, 1, 2, 1, 1, 1, 7);
        Checks.is(3, "a good land", Checks.land(x, TWO + "road 0 1 2;camel 5;camel 6;camel 7;"), 3);
        Checks.is(4, "no fault", x.fault(), -1);
        long[] left = {x.told(0), x.told(1), x.told(2), x.told(3), x.told(4), x.told(5), x.count(0), x.run(0, 0)};
        Checks.are(3, "all is new", left, 2, 3, 3, 0, 0, 0, 0, 0);
        Checks.are(3, "the string", new long[] {x.row(0), x.row(1), x.row(2), x.row(3)}, 0, 1, 2, -1);
        Checks.is(3, "no grief is left", x.grief(1, 0, 0) + x.grief(1, 0, 1), 0);
        Checks.is(3, "no road is left", Checks.land(x, TWO + "camel 1;camel 1;"), 2);
        Checks.is(3, "that road", x.road(0, 1), -1);
        Checks.is(3, "the mother of none", x.camel(0, 1), -1);
        landsInTurn();
    }

    private static void landsInTurn() {
        String rich = TWO + "road 0 1 2;camel 5;camel 6;hurt 0 0 4;hurt 1 1 3;calf 0 1;quarrel 0 1;law 50;";
        GrievingCamels x = Checks.in(rich);
        for (int i = 0; i < 3; i++) {
            Checks.land(x, TWO + "camel 5;camel 6;");
            Checks.are(3, "nothing of the land before", new long[] {x.road(0, 1), x.camel(0, 1), x.quarrel(0, 1) ? 1 : 0,
                x.quarrel(1, 0) ? 1 : 0, x.shy(), x.grief(0, 0, 0), x.grief(1, 1, 1), x.hurt(1, 1, 7), x.halt(1)},
                    -1, -1, 0, 0, 0, 0, 0, 7, 7);
            Checks.land(x, i == 0 ? rich : i == 1 ? rich + "x" : "place 0;" + rich + "camel 1;camel 2;");
        }
    }

    private static void goodPlan(String text, int steps) {
        GrievingCamels x = Checks.in(TWO + "camel 1;camel 2;");
        Checks.is(36, text, Checks.plan(x, text), steps);
        Checks.is(36, "fault of " + text, x.fault(), -1);
        Checks.is(36, "the tape behind " + text, x.count(1), 0);
    }

    private static void badPlan(String text, int answer, int where) {
        GrievingCamels x = Checks.in(TWO + "camel 1;camel 2;");
        Checks.is(36, text, Checks.plan(x, text), answer);
        Checks.is(36, "fault of " + text, x.fault(), where);
        Checks.is(36, "the tape behind " + text, x.count(1), 0);
    }

    private static void plansTold() {
        goodPlan("", 0);
        goodPlan("   ", 0);
        goodPlan("go 1;wait 99;wait 0;feed;remind;drop 1;join 0;lead 1;", 8);
        goodPlan(" go1 ; wait99 ; feed ; ", 3);
        goodPlan("again 20[];again 0[feed;];while 1<2[];if 1=1[];if 1>1[]else[];", 6);
        goodPlan("again 2[again 2[feed;feed;];];", 4);
        goodPlan("if here<1[feed;]else[if row=2[feed;]else[];];", 4);
        goodPlan("while here+hours-halt+row-lost+steps-grief 1+999 < 0 [ ] ;", 1);
        goodPlan("if 1<2[if 1<2[if 1<2[if 1<2[if 1<2[if 1<2[];];];];];];", 6);
        goodPlan("go0;".repeat(50), 50);
        goodPlan("if 1" + "+1".repeat(93) + "=1[];", 1);
        // "elsewhere" and "else if" are no else with a block; nor is a block without a step.
        badPlan("if 1=1[]elsewhere[];", -9, 8);
        badPlan("if 1=1[]else if 1=1[];", -9, 13);
    }

    private static void planFaults() {
        badPlan("go 2;", -8, 3);
        badPlan("go;", -9, 2);
        badPlan("go 1", -9, 4);
        badPlan("go 1  ", -9, 6);
        badPlan("wait 100;", -8, 5);
        badPlan("drop 2;", -8, 5);
        badPlan("join 2;", -8, 5);
        badPlan("lead 2;", -8, 5);
        badPlan("goes 1;", -9, 0);
        badPlan("feed 1;", -9, 5);
        badPlan(";", -9, 0);
        badPlan("feed;;", -9, 5);
        badPlan("feed;]", -9, 5);
        badPlan("again 21[];", -8, 6);
        badPlan("again 2;", -9, 7);
        badPlan("again 2[feed];", -9, 12);
        badPlan("again 2[feed;", -9, 13);
        badPlan("again 2[feed;]", -9, 14);
        badPlan("while 1000<1[];", -8, 6);
        badPlan("while 1[];", -9, 7);
        badPlan("while 1<[];", -9, 8);
        badPlan("while 1<=2[];", -9, 8);
        badPlan("while 1<2<3[];", -9, 9);
        badPlan("while 1*2<3[];", -9, 7);
        badPlan("while grief 2<3[];", -8, 12);
        badPlan("while grief<3[];", -9, 11);
        badPlan("while place<3[];", -9, 6);
        badPlan("while 1+<3[];", -9, 8);
        badPlan("if 1=1;", -9, 6);
        badPlan("else[];", -9, 0);
        badPlan("again 1[]else[];", -9, 9);
        badPlan("while 1=2[]else[];", -9, 11);
        badPlan("if 1=1[]else[]else[];", -9, 14);
        badPlan("again 1[again 1[again 1[again 1[again 1[again 1[again 1[", -7, 55);
        badPlan("again 1[again 1[again 1[again 1[again 1[again 1[again 1 feed", -9, 56);
        badPlan("again 1[again 1[again 1[again 1[again 1[if 1=1[]else[again 1 [", -7, 61);
        GrievingCamels x = new GrievingCamels();
        Checks.is(36, "no place", Checks.plan(x, "go 0;"), -8);
        Checks.is(36, "no camel", Checks.plan(x, "drop 0;"), -8);
    }

    private static void whatAPlanLeaves() {
        GrievingCamels x = Checks.in(TWO + "camel 1;camel 2;");
        Checks.plan(x, "wait 7;");
        Checks.is(36, "a bad plan", Checks.plan(x, "wait 8;go 9;"), -8);
        Checks.is(36, "where it is bad", x.fault(), 10);
        Checks.is(36, "the old one stays", x.run(0, 0), 7);
        Checks.feed(x, "wait 8;wait 9;");
        Checks.argument(36, "plan(-1)", () -> x.plan(-1));
        Checks.argument(36, "plan(21)", () -> x.plan(21));
        Checks.is(36, "the fault stays", x.fault(), 10);
        Checks.is(36, "the tape stays", x.count(1), 20);
        Checks.is(36, "the first step", x.plan(7), 1);
        Checks.is(36, "it runs", x.run(0, 0), 8);
        Checks.is(36, "no fault", x.fault(), -1);
        Checks.feed(x, "feed;".repeat(44));
        Checks.argument(36, "plan(201)", () -> x.plan(201));
        Checks.is(36, "the tape is all there", x.count(1), 220);
        Checks.is(36, "plan(200)", x.plan(200), 40);
        Checks.is(36, "plan(0)", x.plan(0), 0);
        Checks.is(36, "no steps", x.run(0, 3), 0);
        Checks.is(36, "the land stays", x.told(0), 2);
        for (int i = 0; i < 9; i++) {
            Checks.is(36, "a long test, again", Checks.plan(x, "if 1" + "+1".repeat(90) + "=91[wait 1;];"), 2);
            Checks.is(36, "it is so", x.run(0, 0), 1);
            Checks.is(36, "a block without steps, where one had some", Checks.plan(x, "if 1=1[]else[];wait 1;"), 2);
            Checks.is(36, "nothing of the plan before", x.run(0, 3), 2);
        }
    }
}
