/**
 * The sentences of the document that name an edge of a RUN (promises 37 to 40, and the terms ahead of
 * them): each with a test at the edge, and one on either side of it.
 */
public final class PlanEdgesTest {
    private static final int MIN = Integer.MIN_VALUE;
    private static final int MAX = Integer.MAX_VALUE;

    /** A fodder, a salt, a mirage. */
    private static final String FOUR = "place 0;place 1;place 2;place 3;road 0 1 4;road 1 2 3;road 0 2 9;road 2 3 2;"
        + "camel 50;camel 20;camel 70;hurt 0 1 6;hurt 1 1 2;hurt 1 2 5;hurt 2 3 4;hurt 0 3 3;calf 2 0;";

    public static void main(String[] args) {
        withoutSteps();
        goingAlongARoad();
        lostWithoutARoad();
        haltsOfARun();
        allThatIsBehindAHalt();
        notInTheFirstPlace();
        fedAsByFodder();
        remindedAsBySalt();
        dropOfOneThatIsNotThere();
        joinOfOneThatIsThere();
        leadFromWithin();
        rowsFromNoneToAll();
        againSoOften();
        ifAndElse();
        lessMoreAlike();
        valuesOfATest();
        sumsOfATest();
        stepsThatWereDone();
        eachTimeItIsComeTo();
        eachTimeTIsAsked();
        behind300Steps();
        wornWithin();
        wornByWhiles();
        askedOnly();
        whichRun();
        whereTheRowEnds();
        beginWhereItTakesFewest();
        Checks.end("PlanEdgesTest");
    }

    private static long[] run(GrievingCamels x, int from) {
        return new long[] {x.run(from, 0), x.run(from, 1), x.run(from, 2), x.run(from, 3), x.run(from, 4), x.run(from, 5)};
    }

    private static void runs(GrievingCamels x, String plan, int from, long... due) {
        Checks.is(36, "fault of " + plan, Checks.plan(x, plan) < 0 ? x.fault() : -1, -1);
        Checks.are(37, plan + " from " + from, run(x, from), due);
    }

    private static void withoutSteps() {
        GrievingCamels x = Checks.in(FOUR);
        for (int p = 0; p < 4; p++) {
            Checks.are(37, "no plan, from " + p, run(x, p), 0, p, 0, 0, 0, 3);
        }
        runs(x, "", 2, 0, 2, 0, 0, 0, 3);
        runs(x, "wait 0;", 2, 0, 2, 0, 1, 0, 3);
    }

    /** "go" P (along the road, with the HALT there and all that is behind it ..) */
    private static void goingAlongARoad() {
        GrievingCamels x = Checks.in(FOUR);
        runs(x, "go 1;", 0, 10, 1, 0, 1, 0, 3);
        runs(x, "go 1;", 2, 9, 1, 0, 1, 0, 3);
        runs(x, "go 2;", 3, 7, 2, 0, 1, 0, 3);
        runs(x, "go 3;", 2, 2, 3, 0, 1, 0, 3);
        // The fodder takes one of each grief behind its halt: 6, then 4 of 5 in place 2.
        runs(x, "go 1;go 2;", 0, 17, 2, 0, 2, 0, 3);
    }

    /** "(.. without a road it stays where it is, and is LOST once more)" */
    private static void lostWithoutARoad() {
        GrievingCamels x = Checks.in(FOUR);
        runs(x, "go 3;", 0, 0, 0, 1, 1, 0, 3);
        runs(x, "go 0;", 0, 0, 0, 1, 1, 0, 3);
        runs(x, "go 3;go 0;go 3;", 0, 0, 0, 3, 3, 0, 3);
        runs(x, "go 3;go 2;go 3;", 0, 16, 3, 1, 3, 0, 3);
        Checks.are(38, "nothing is learnt or forgotten where one is lost", new long[] {lostIn(x, 1, 1, 0),
            lostIn(x, 1, 1, 2), lostIn(x, 2, 1, 1)}, 6, 0, 2);
    }

    private static int lostIn(GrievingCamels x, int from, int place, int camel) {
        Checks.plan(x, "go " + from + ";");
        Checks.is(37, "lost in " + from, x.run(from, 2), 1);
        return x.ran(from, place, camel);
    }

    /** HALT as GRIEFS are on coming; "0 in a mirage, if fewer than 3 have any". */
    private static void haltsOfARun() {
        GrievingCamels x = Checks.in("place 3;place 0;road 0 1 1;camel 0;camel 0;camel 0;camel 0;hurt 0 0 5;hurt 1 0 6;"
            + "hurt 2 0 7;law sum;");
        runs(x, "go 0;", 1, 19, 0, 0, 1, 0, 4);
        runs(x, "drop 3;go 0;", 1, 19, 0, 0, 2, 0, 3);
        runs(x, "drop 2;go 0;", 1, 1, 0, 0, 2, 0, 3);
        x.string(3, 13);
        runs(x, "go 0;", 1, 1, 0, 0, 1, 0, 3);
        runs(x, "join 2;go 0;", 1, 19, 0, 0, 2, 0, 4);
        GrievingCamels y = Checks.in("place 0;place 0;road 0 1 1;camel 0;camel 0;hurt 0 1 5;hurt 1 1 6;law first*10+last;");
        runs(y, "go 1;", 0, 57, 1, 0, 1, 0, 2);
        runs(y, "lead 1;go 1;", 0, 66, 1, 0, 2, 0, 2);
        runs(y, "drop 0;go 1;", 0, 67, 1, 0, 2, 0, 1);
        runs(y, "drop 0;drop 1;go 1;", 0, 1, 1, 0, 3, 0, 0);
    }

    private static void allThatIsBehindAHalt() {
        GrievingCamels x = Checks.in(FOUR);
        Checks.plan(x, "go 1;");
        Checks.are(38, "learnt, then fodder", new long[] {x.ran(0, 1, 0), x.ran(0, 1, 1), x.ran(0, 1, 2), x.ran(0, 2, 1),
            x.ran(0, 3, 2), x.ran(0, 3, 0), x.ran(0, 0, 0)}, 5, 1, 2, 4, 3, 2, 0);
        Checks.plan(x, "drop 0;go 1;go 2;");
        Checks.are(38, "a calf without its mother; fodder, then salt", new long[] {x.ran(0, 1, 2), x.ran(0, 1, 0),
            x.ran(0, 1, 1), x.ran(0, 2, 1), x.ran(0, 3, 2)}, 0, 6, 2, 5, 4);
        Checks.plan(x, "drop 0;go 1;join 0;go 2;go 1;");
        Checks.are(38, "a calf with its mother again", new long[] {x.ran(0, 1, 2), x.ran(0, 1, 0)}, 2, 5);
    }

    private static void notInTheFirstPlace() {
        GrievingCamels x = Checks.in(FOUR);
        runs(x, "wait 1;", 1, 1, 1, 0, 1, 0, 3);
        Checks.are(38, "none learns or forgets where the run begins", new long[] {x.ran(1, 1, 0), x.ran(1, 1, 2)}, 6, 0);
        runs(x, "go 0;go 1;", 1, 14, 1, 0, 2, 0, 3);
        Checks.are(38, "but on coming there again", new long[] {x.ran(1, 1, 0), x.ran(1, 1, 2)}, 5, 2);
    }

    /** "feed" (as by fodder): 0 at least, in all PLACES, of the row. */
    private static void fedAsByFodder() {
        GrievingCamels x = Checks.in(FOUR);
        int[] times = {0, 1, 2, 3, 5, 6, 7};
        for (int each : times) {
            Checks.plan(x, "again " + each + "[feed;];");
            Checks.are(38, "fed " + each + " times", new long[] {x.ran(3, 1, 0), x.ran(3, 1, 1), x.ran(3, 2, 1),
                x.ran(3, 3, 2), x.ran(3, 3, 0)}, Math.max(0, 6 - each), Math.max(0, 2 - each), Math.max(0, 5 - each),
                    Math.max(0, 4 - each), Math.max(0, 3 - each));
        }
        Checks.plan(x, "feed;drop 0;feed;");
        Checks.are(38, "of the row alone", new long[] {x.ran(0, 1, 0), x.ran(0, 1, 1)}, 5, 0);
        runs(x, "drop 0;drop 1;drop 2;feed;remind;", 0, 0, 0, 0, 5, 0, 0);
        Checks.is(38, "an empty row", x.ran(0, 1, 0), 6);
    }

    /** "remind" (as by salt): what is above 0, to its DEPTH at most. */
    private static void remindedAsBySalt() {
        GrievingCamels x = Checks.in(FOUR);
        x.soothe(1, 1);
        x.soothe(2, 1);
        x.hurt(2, 1, 3);
        int[] times = {0, 1, 4, 5, 6};
        for (int each : times) {
            Checks.plan(x, "feed;again " + each + "[remind;];");
            Checks.are(38, "reminded " + each + " times", new long[] {x.ran(0, 1, 0), x.ran(0, 1, 1), x.ran(0, 2, 1),
                x.ran(0, 3, 2)}, each > 0 ? 6 : 5, 0, Math.min(8, 2 + each), each > 0 ? 4 : 3);
        }
        Checks.plan(x, "feed;drop 0;remind;");
        Checks.are(38, "of the row alone", new long[] {x.ran(0, 1, 0), x.ran(0, 3, 2)}, 5, 4);
        Checks.plan(x, "again 4[feed;];again 9[remind;];");
        Checks.are(38, "what is 0 stays 0", new long[] {x.ran(0, 3, 2), x.ran(0, 3, 0), x.ran(0, 1, 0)}, 0, 0, 6);
    }

    private static long[] rowBehind(GrievingCamels x, String plan) {
        Checks.is(36, "fault of " + plan, Checks.plan(x, plan) < 0 ? x.fault() : -1, -1);
        long[] row = new long[x.run(0, 5)];
        for (int i = 0; i < row.length; i++) {
            row[i] = x.ranRow(0, i);
        }
        Checks.is(39, "none behind " + plan, x.ranRow(0, row.length), -1);
        return row;
    }

    /** "drop of one that is not there .. do nothing" */
    private static void dropOfOneThatIsNotThere() {
        GrievingCamels x = Checks.in(FOUR);
        Checks.are(39, "the first", rowBehind(x, "drop 0;"), 1, 2);
        Checks.are(39, "the midst", rowBehind(x, "drop 1;"), 0, 2);
        Checks.are(39, "the last", rowBehind(x, "drop 2;"), 0, 1);
        Checks.are(39, "twice", rowBehind(x, "drop 1;drop 1;"), 0, 2);
        Checks.are(39, "all", rowBehind(x, "drop 1;drop 2;drop 0;"));
        Checks.are(39, "of none", rowBehind(x, "drop 1;drop 2;drop 0;drop 0;drop 1;"));
        x.string(1, 2);
        Checks.are(39, "not there from the beginning", rowBehind(x, "drop 0;drop 1;"), 2);
    }

    /** "join of one that is there do nothing"; "(C comes behind all of the row)" */
    private static void joinOfOneThatIsThere() {
        GrievingCamels x = Checks.in(FOUR);
        Checks.are(39, "all are there", rowBehind(x, "join 0;join 2;join 1;"), 0, 1, 2);
        Checks.are(39, "dropped and joined", rowBehind(x, "drop 0;join 0;"), 1, 2, 0);
        Checks.are(39, "joined twice", rowBehind(x, "drop 0;join 0;join 1;join 0;"), 1, 2, 0);
        x.string(0, 0);
        Checks.are(39, "into an empty row", rowBehind(x, "join 2;join 0;join 2;"), 2, 0);
    }

    /** "lead" C (C comes ahead of all of the row, also from within it) */
    private static void leadFromWithin() {
        GrievingCamels x = Checks.in(FOUR);
        Checks.are(39, "the first stays", rowBehind(x, "lead 0;"), 0, 1, 2);
        Checks.are(39, "from the midst", rowBehind(x, "lead 1;"), 1, 0, 2);
        Checks.are(39, "from the end", rowBehind(x, "lead 2;"), 2, 0, 1);
        Checks.are(39, "from without", rowBehind(x, "drop 1;lead 1;"), 1, 0, 2);
        Checks.are(39, "one behind the other", rowBehind(x, "lead 1;lead 2;lead 1;"), 1, 2, 0);
        x.string(0, 0);
        Checks.are(39, "into an empty row", rowBehind(x, "lead 2;lead 1;"), 1, 2);
    }

    private static void rowsFromNoneToAll() {
        GrievingCamels x = Checks.in("place 0;" + "camel 0;".repeat(8));
        Checks.are(39, "eight, turned round", rowBehind(x, "lead 1;lead 2;lead 3;lead 4;lead 5;lead 6;lead 7;"),
                7, 6, 5, 4, 3, 2, 1, 0);
        Checks.are(39, "eight are there", rowBehind(x, "join 7;join 0;lead 0;lead 7;"), 7, 0, 1, 2, 3, 4, 5, 6);
        x.string(0, 0);
        Checks.are(39, "eight, of none", rowBehind(x, "join 3;join 1;join 4;join 7;join 5;lead 2;lead 6;join 0;"),
                6, 2, 3, 1, 4, 7, 5, 0);
        Checks.is(39, "a run keeps no row", x.told(2), 0);
    }

    /** "again" N BLOCK (0 to 20 times) */
    private static void againSoOften() {
        GrievingCamels x = Checks.in(FOUR);
        runs(x, "again 0[wait 1;];", 0, 0, 0, 0, 1, 0, 3);
        runs(x, "again 1[wait 1;];", 0, 1, 0, 0, 2, 0, 3);
        runs(x, "again 20[wait 1;wait 2;];", 0, 60, 0, 0, 41, 0, 3);
        runs(x, "again 20[];wait 3;", 0, 3, 0, 0, 2, 0, 3);
        runs(x, "again 3[again 2[wait 1;];again 0[wait 9;];];wait 5;", 0, 11, 0, 0, 14, 0, 3);
        runs(x, "again 2[again 2[again 2[again 2[again 2[again 2[wait 1;];];];];];];", 0, 64, 0, 0, 127, 0, 3);
    }

    /** "if" T BLOCK, perhaps "else" BLOCK */
    private static void ifAndElse() {
        GrievingCamels x = Checks.in(FOUR);
        runs(x, "if 1=1[wait 1;]else[wait 2;];wait 4;", 0, 5, 0, 0, 3, 0, 3);
        runs(x, "if 1=2[wait 1;]else[wait 2;];wait 4;", 0, 6, 0, 0, 3, 0, 3);
        runs(x, "if 1=2[wait 1;];wait 4;", 0, 4, 0, 0, 2, 0, 3);
        runs(x, "if 1=1[]else[wait 2;];wait 4;", 0, 4, 0, 0, 2, 0, 3);
        runs(x, "if 1=2[wait 1;]else[];wait 4;", 0, 4, 0, 0, 2, 0, 3);
        runs(x, "if 1=2[wait 1;]else[if 1=1[wait 8;];];wait 4;", 0, 12, 0, 0, 4, 0, 3);
        // T is asked once: what the block does to it makes no odds.
        runs(x, "if row=3[drop 0;wait 1;]else[wait 2;];", 0, 1, 0, 0, 3, 0, 2);
    }

    /** "R: <, > or =" */
    private static void lessMoreAlike() {
        GrievingCamels x = Checks.in(FOUR);
        int[][] pairs = {{4, 5}, {5, 5}, {6, 5}, {0, 999}, {999, 0}, {999, 999}, {0, 0}};
        for (int[] pair : pairs) {
            int way = Integer.compare(pair[0], pair[1]);
            int due = (way < 0 ? 1 : 0) + (way > 0 ? 10 : 0) + (way == 0 ? 50 : 0);
            String two = pair[0] + " R " + pair[1] + "[wait ";
            Checks.plan(x, "if " + two.replace("R", "<") + "1;];if " + two.replace("R", ">") + "10;];if "
                + two.replace("R", "=") + "50;];");
            Checks.is(37, pair[0] + " and " + pair[1], x.run(0, 0), due);
        }
    }

    private static int whether(GrievingCamels x, String ahead, String test, int from) {
        Checks.is(36, "fault of " + test, Checks.plan(x, ahead + "if " + test + "[wait 0;]else[wait 0;wait 0;];") < 0 ? 1 : 0, 0);
        int with = x.run(from, 3);
        Checks.plan(x, ahead);
        return 3 - (with - x.run(from, 3));
    }

    /** "here", "hours", "halt", "row", "lost", "steps", "grief" C: each at what it is, and next to it. */
    private static void valuesOfATest() {
        String[] aheads = {"", "go 1;", "go 1;go 2;go 3;", "go 3;go 0;wait 7;drop 1;", "feed;feed;go 1;"};
        String[] values = {"here", "hours", "halt", "row", "lost", "steps", "grief 0", "grief 1", "grief 2"};
        int[][] due = {
            {0, 0, 0, 3, 0, 0, 0, 0, 0},
            {1, 10, 5, 3, 0, 1, 5, 1, 2},
            // 4 6 3 4 2, in the mirage 2 have any; the salt made 4 of 3, and 3 of 2.
            {3, 19, 0, 3, 0, 3, 3, 0, 4},
            {0, 7, 0, 2, 2, 4, 0, 0, 0},
            {1, 8, 3, 3, 0, 3, 3, 0, 1},
        };
        for (int i = 0; i < aheads.length; i++) {
            for (int k = 0; k < values.length; k++) {
                GrievingCamels x = Checks.in(FOUR);
                Checks.is(37, values[k] + " behind " + aheads[i], whether(x, aheads[i], values[k] + "=" + due[i][k], 0), 1);
                Checks.is(37, values[k] + " less 1 behind " + aheads[i], whether(x, aheads[i],
                        values[k] + "<" + due[i][k], 0), 0);
                Checks.is(37, values[k] + " and 1 behind " + aheads[i], whether(x, aheads[i],
                        values[k] + ">" + due[i][k], 0), 0);
            }
        }
    }

    /** "S: V { + or - V }" */
    private static void sumsOfATest() {
        String[] so = {"1+2=3", "9-2-3=4", "9-2+3=10", "0-1<0", "0-999-999<1-999", "3=1+2", "4=9-2-3", "5-6=0-1",
            "999+999>999+998", "here-1<0", "row+row-row=3", "hours-0=0+hours", "grief 1+halt=0"};
        String[] notSo = {"1+2=4", "9-2-3=10", "9-2+3=4", "0-1>0", "1-2=2-1", "4=9-2+3", "0=0+1", "row-row>0"};
        GrievingCamels x = Checks.in(FOUR);
        for (String each : so) {
            Checks.is(37, each, whether(x, "", each, 0), 1);
        }
        x = Checks.in(FOUR);
        for (String each : notSo) {
            Checks.is(37, each, whether(x, "", each, 0), 0);
        }
    }

    /** "steps" (that were done, this one not) */
    private static void stepsThatWereDone() {
        GrievingCamels x = Checks.in(FOUR);
        Checks.are(37, "at first", new long[] {whether(x, "", "steps=0", 0), whether(x, "", "steps>0", 0)}, 1, 0);
        Checks.is(37, "behind one", whether(x, "wait 0;", "steps=1", 0), 1);
        Checks.is(37, "behind an again and two", whether(x, "again 2[feed;];", "steps=3", 0), 1);
        Checks.is(37, "behind a while asked once", whether(x, "while 1>2[];", "steps=1", 0), 1);
        runs(x, "if steps=0[if steps=1[wait 1;if steps=3[wait 2;];];];", 0, 3, 0, 0, 5, 0, 3);
        // Asked with 0, 2, 4 behind it, and with 6.
        runs(x, "while steps<5[wait 1;];", 0, 3, 0, 0, 7, 0, 3);
        runs(x, "while steps<6[wait 1;];", 0, 3, 0, 0, 7, 0, 3);
        runs(x, "while steps<7[wait 1;];", 0, 4, 0, 0, 9, 0, 3);
    }

    /** "each STEP counts as it begins (of again, while, if: each time it is come to ..)" */
    private static void eachTimeItIsComeTo() {
        GrievingCamels x = Checks.in(FOUR);
        runs(x, "again 3[again 0[];if 1=2[];while 1=2[];];", 0, 0, 0, 0, 10, 0, 3);
        runs(x, "again 2[if 1=1[wait 1;]else[wait 2;wait 2;];];", 0, 2, 0, 0, 5, 0, 3);
        runs(x, "again 2[if 1=2[wait 1;]else[wait 2;wait 2;];];", 0, 8, 0, 0, 7, 0, 3);
    }

    /** "a while each time T is asked" */
    private static void eachTimeTIsAsked() {
        GrievingCamels x = Checks.in(FOUR);
        runs(x, "while hours<0[wait 1;];", 0, 0, 0, 0, 1, 0, 3);
        runs(x, "while hours<1[wait 1;];", 0, 1, 0, 0, 3, 0, 3);
        runs(x, "while hours<2[wait 1;];", 0, 2, 0, 0, 5, 0, 3);
        runs(x, "while row>0[drop 0;drop 1;drop 2;];wait 1;", 0, 1, 0, 0, 6, 0, 0);
    }

    /** "behind 300 of them it ends (WORN)" */
    private static void behind300Steps() {
        GrievingCamels x = Checks.in(FOUR);
        String most = "again 13[again 20[wait 1;];wait 1;";
        runs(x, most + "];", 0, 273, 0, 0, 287, 0, 3);
        // 1 and 13 times 22 are 287; an again of 12 makes 300 of them.
        runs(x, most + "];again 11[wait 1;];", 0, 284, 0, 0, 299, 0, 3);
        runs(x, most + "];again 12[wait 1;];", 0, 285, 0, 0, 300, 0, 3);
        runs(x, most + "];again 13[wait 1;];", 0, 285, 0, 0, 300, 1, 3);
        runs(x, most + "];again 11[wait 1;];wait 50;", 0, 334, 0, 0, 300, 0, 3);
        runs(x, most + "];again 12[wait 1;];wait 50;", 0, 285, 0, 0, 300, 1, 3);
        runs(x, most + "];again 12[wait 1;];again 0[];", 0, 285, 0, 0, 300, 1, 3);
        runs(x, most + "];again 12[wait 1;];if 1=2[];", 0, 285, 0, 0, 300, 1, 3);
        runs(x, most + "];again 12[wait 1;];while 1=2[];", 0, 285, 0, 0, 300, 1, 3);
        runs(x, most + "];again 11[wait 1;];while 1=2[];", 0, 284, 0, 0, 300, 0, 3);
        runs(x, most + "];again 11[wait 1;];again 20[];", 0, 284, 0, 0, 300, 0, 3);
    }

    /** What is behind the 300th step is not done: no hours, no row, no griefs, no place. */
    private static void wornWithin() {
        GrievingCamels x = Checks.in(FOUR);
        runs(x, "again 20[again 20[again 20[wait 1;];];];drop 0;go 1;", 0, 283, 0, 0, 300, 1, 3);
        runs(x, "again 20[again 14[feed;];];go 1;", 0, 0, 0, 0, 300, 1, 3);
        runs(x, "again 13[again 20[feed;];feed;];again 11[feed;];go 1;", 0, 4, 1, 0, 300, 0, 3);
        runs(x, "again 13[again 20[feed;];feed;];again 12[feed;];go 1;", 0, 0, 0, 0, 300, 1, 3);
        runs(x, "again 20[again 20[go 3;];];", 0, 0, 0, 284, 300, 1, 3);
        runs(x, "again 20[if 1=1[again 20[wait 1;];];wait 1;];drop 2;", 0, 273, 0, 0, 300, 1, 3);
    }

    private static void wornByWhiles() {
        GrievingCamels x = Checks.in(FOUR);
        runs(x, "while 1=1[];drop 0;", 0, 0, 0, 0, 300, 1, 3);
        runs(x, "while 1=1[wait 1;];drop 0;", 0, 150, 0, 0, 300, 1, 3);
        runs(x, "while hours<149[wait 1;];", 0, 149, 0, 0, 299, 0, 3);
        runs(x, "while hours<150[wait 1;];", 0, 150, 0, 0, 300, 1, 3);
        runs(x, "wait 0;while hours<149[wait 1;];", 0, 149, 0, 0, 300, 0, 3);
        runs(x, "wait 0;while hours<150[wait 1;];", 0, 149, 0, 0, 300, 1, 3);
        runs(x, "while 1=1[while hours<3[wait 1;];];", 0, 3, 0, 0, 300, 1, 3);
    }

    /** "All is asked only: GRIEFS, the row stay." */
    private static void askedOnly() {
        GrievingCamels x = Checks.in(FOUR);
        x.string(2, 21);
        x.route(3, 12);
        runs(x, "lead 0;go 1;feed;go 2;remind;drop 2;wait 9;", 0, 25, 2, 0, 7, 0, 2);
        Checks.are(38, "behind the run", new long[] {x.ran(0, 1, 0), x.ran(0, 1, 2), x.ran(0, 2, 1), x.ranRow(0, 0)},
                6, 3, 5, 0);
        Checks.are(37, "nothing of it stays", new long[] {x.grief(1, 0, 0), x.grief(1, 2, 0), x.grief(1, 2, 1),
            x.grief(2, 1, 0), x.row(0), x.row(1), x.row(2), x.told(3), x.told(5), x.hours(0), x.undo()},
                6, 0, 0, 5, 2, 1, -1, 3, 0, 13, -1);
        Checks.are(37, "the same once more", run(x, 0), 25, 2, 0, 7, 0, 2);
        x.string(1, 1);
        Checks.are(37, "by the string's row as it is first", run(x, 0), 25, 2, 0, 7, 0, 2);
        x.string(0, 0);
        x.hurt(2, 1, 7);
        Checks.are(37, "by GRIEFS as they are now", new long[] {x.run(0, 0), x.run(0, 5), x.ran(0, 2, 1)}, 22, 1, 12);
    }

    /** 37, 38: which answers there are, and of what. */
    private static void whichRun() {
        GrievingCamels x = Checks.in(FOUR);
        Checks.argument(37, "what -1", () -> x.run(0, -1));
        Checks.argument(37, "what 6", () -> x.run(0, 6));
        Checks.index(37, "from -1", () -> x.run(-1, 6));
        Checks.index(37, "from 4", () -> x.run(4, 0));
        Checks.index(38, "from -1", () -> x.ran(-1, 0, 3));
        Checks.index(38, "from 4", () -> x.ran(4, 0, 0));
        Checks.index(38, "place -1", () -> x.ran(0, -1, 0));
        Checks.index(38, "place 4", () -> x.ran(0, 4, 3));
        Checks.element(38, "camel -1", () -> x.ran(0, 0, -1));
        Checks.element(38, "camel 3", () -> x.ran(0, 0, 3));
        Checks.index(39, "from -1", () -> x.ranRow(-1, 0));
        Checks.index(39, "from 4", () -> x.ranRow(4, 0));
        Checks.are(37, "edges", new long[] {x.run(3, 5), x.ran(3, 3, 2), x.ran(0, 3, 0)}, 3, 4, 3);
    }

    /** 39: "NONE: none such." */
    private static void whereTheRowEnds() {
        GrievingCamels x = Checks.in(FOUR);
        Checks.are(39, "no plan", new long[] {x.ranRow(0, -1), x.ranRow(0, 0), x.ranRow(0, 2), x.ranRow(0, 3),
            x.ranRow(0, MIN), x.ranRow(0, MAX)}, -1, 0, 2, -1, -1, -1);
        Checks.plan(x, "if here=1[drop 0;drop 1;drop 2;];");
        Checks.are(39, "from here and from there", new long[] {x.ranRow(0, 0), x.ranRow(1, 0), x.ranRow(2, 2)}, 0, -1, 2);
    }

    /** "The PLACE from which a RUN takes fewest hours, of these the first; NONE: there is no PLACE." */
    private static void beginWhereItTakesFewest() {
        Checks.is(40, "no place", new GrievingCamels().begin(), -1);
        Checks.is(40, "camels alone", Checks.in("camel 1;").begin(), -1);
        Checks.is(40, "one place", Checks.in("place 0;").begin(), 0);
        GrievingCamels x = Checks.in(FOUR);
        Checks.is(40, "no plan", x.begin(), 0);
        for (int p = 0; p < 4; p++) {
            Checks.plan(x, "if here=" + p + "[wait 6;]else[wait 7;];");
            Checks.is(40, "fewest from " + p, x.begin(), p);
            Checks.plan(x, "if here=" + p + "[wait 8;]else[wait 7;];");
            Checks.is(40, "most from " + p, x.begin(), p == 0 ? 1 : 0);
        }
        Checks.plan(x, "if here<2[wait 7;]else[wait 6;];");
        Checks.is(40, "of the last two", x.begin(), 2);
        Checks.plan(x, "wait 99;wait 99;wait 99;");
        Checks.is(40, "of all alike", x.begin(), 0);
        GrievingCamels ten = Checks.in("place 0;".repeat(10));
        Checks.plan(ten, "if here=9[]else[wait 1;];");
        Checks.is(40, "the tenth", ten.begin(), 9);
    }
}
