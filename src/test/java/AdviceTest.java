/** Promises 15 to 27: what to tell, plans, who knows when, parting, tasting, drying. */
public final class AdviceTest {
    public static void main(String[] args) {
        best();
        least();
        noAdvice();
        plans();
        planTies();
        allKnow();
        parting();
        tasting();
        dries();
        Run.finish();
    }

    private static Run start(String name, String text) {
        return new Run(name).tape(text).due(text.split(";").length, "dairy");
    }

    private static void best() {
        Run run = start("best", "farm f;cow a f 10 2 3;cow b f 10 2 3;news p plain 6;news q plain 6;news s scandal 4;news w war 20;"
            + "news r weather 20;news l plain 2 lie;news z plain 0;hears 2;");
        // 7 by the lie l and 6 by p, the least as bits of those that give so.
        run.due(23, "best", 0).due(0b100001, "told").due(22, "honest", 0).due(0b100001, "told");
        run.due(0, "tell", 1, 2).due(25, "best", 0).due(0b100100, "told").due(24, "honest", 0).due(21, "best", 1).due(0b100000, "told");
        // What she has heard stays: a room of one is left, then none.
        run.due(0, "tell", 0, 5).due(25, "best", 0).due(4, "told").due(25, "honest", 0).due(0, "tell", 0, 4).due(17, "best", 0).due(0, "told");
        run.due(17, "honest", 0).due(1, "days", 1);
        // Yesterday's weather counts; the lie is STALE now, and it is found to be one.
        run.due(42, "best", 0).due(3, "told").due(0, "find", 5).due(42, "best", 0);
        run = start("found lies count less", "farm f;cow a f 1 9 3;news x plain 3 lie;news y plain 4;hears 1;");
        run.due(9, "best", 0).due(1, "told").due(0, "find", 0).due(5, "best", 0).due(2, "told");
        run = start("fewest news", "farm f;cow a f 1 9 3;news x plain 0;news y weather 9;news z plain 2;news u plain 2;hears 5;");
        run.due(5, "best", 0).due(0b1100, "told");
        run = start("a curdled one", "farm f;cow a f 9 9 3;news x war 0;news y plain 9;").due(0, "tell", 0, 0);
        run.due(0, "best", 0).due(0, "told").due(0, "honest", 0).due(0, "least", 0, 0).due(-1, "least", 0, 1).due(0, "told");
        run = start("below nothing", "farm f;cow a f 1 9 3;news x weather 20 lie;news y plain 19;news z plain 5;hears 1;");
        run.due(0, "tell", 0, 0).due(1, "days", 1).due(0, "best", 0).due(0, "told").due(0, "least", 0, 0).due(-1, "least", 0, 1);
        run = start("least of bits", "farm f;cow a f 1 9 3;news x plain 2;news y plain 1;news z plain 3;news u plain 2;hears 2;");
        run.due(6, "best", 0).due(0b101, "told");
    }

    private static void least() {
        Run run = start("least", "farm f;cow a f 10 9 3;news k plain 9 lie;news l plain 15 lie;news p plain 4;news q plain 4;"
            + "news r plain 5;news w war 20;hears 3;");
        run.due(0, "least", 0, 0).due(0, "told").due(0, "least", 0, 10).due(0, "told").due(0, "least", 0, 11).due(4, "told");
        run.due(0, "least", 0, 15).due(16, "told").due(0, "least", 0, 18).due(0b1100, "told").due(0, "least", 0, 19).due(0b10100, "told");
        run.due(0, "least", 0, 23).due(0b11100, "told").due(1, "least", 0, 24).due(1, "told").due(1, "least", 0, 25).due(2, "told");
        run.due(1, "least", 0, 30).due(2, "told").due(1, "least", 0, 35).due(0b10010, "told").due(1, "least", 0, 39).due(0b10110, "told");
        run.due(2, "least", 0, 40).due(3, "told").due(2, "least", 0, 49).due(0b10011, "told").due(-1, "least", 0, 50).due(0b10011, "told");
        run.due(-1, "least", 0, 999).due(-1, "least", 0, 1000).due(-1, "least", 0, -1).due(0b10011, "told");
        // Found ones are lies, too.
        run.due(0, "find", 1).due(1, "least", 0, 25).due(2, "told").due(2, "least", 0, 39).due(3, "told").due(23, "honest", 0);
        // Those that she has heard already do not count.
        run.due(0, "tell", 0, 1).due(0, "least", 0, 25).due(0, "told").due(0, "least", 0, 26).due(4, "told");
        run.due(0, "tell", 0, 2).due(0, "tell", 0, 3).due(0, "least", 0, 33).due(0, "told").due(-1, "least", 0, 34);
    }

    private static void noAdvice() {
        Run run = start("no advice", "farm f;cow a f 10 1 3;cow b f 1 1 1;news k plain 9 lie;");
        run.due(-1, "best", 2).due(-1, "best", -1).due(-1, "honest", 2).due(-1, "least", 2, 0).due(-1, "told").due(10, "honest", 0).due(-1, "told");
        run.due(0, "tell", 0, 0).due(0, "find", 0).due(-1, "best", 0).due(-1, "honest", 0).due(-1, "least", 0, 0).due(-1, "told");
        run.due(10, "best", 1).due(1, "told").tape("").due(0, "dairy").due(1, "told").due(-1, "best", 1);
        run = start("no news", "farm f;cow a f 10 1 3;").due(10, "best", 0).due(0, "told").due(10, "honest", 0).due(0, "least", 0, 10);
        run.due(-1, "least", 0, 11).due(10, "plan", 0, 1).due(-1, "planAt", 0).due(30, "plan", 0, 3);
    }

    private static void plans() {
        Run run = start("plans", "farm f;cow a f 10 9 1;cow b f 10 9 3;news p plain 6;news s weather 9;news w war 9;news l plain 0 lie;");
        run.due(16, "plan", 0, 1).due(0, "planAt", 0).due(-1, "planAt", 1).due(-1, "planAt", -1);
        run.due(35, "plan", 0, 2).due(1, "planAt", 0).due(0, "planAt", 1).due(-1, "planAt", 2);
        run.due(54, "plan", 0, 3).due(1, "planAt", 0).due(1, "planAt", 1).due(0, "planAt", 2).due(-1, "planAt", 3);
        run.due(0, "now", 0).due(0, "now", 4).due(-1, "plan", 0, 4).due(-1, "plan", 0, 0).due(-1, "plan", 2, 1).due(-1, "plan", -1, 1);
        run.due(1, "planAt", 0).due(0, "planAt", 2);
        // What she has heard today stays and is not told again.
        run.due(0, "tell", 0, 0).due(21, "plan", 0, 1).due(3, "planAt", 0).due(0, "tell", 0, 1).due(0, "tell", 0, 3);
        run.due(21, "plan", 0, 1).due(-1, "planAt", 0).due(21 + 22, "plan", 0, 2).due(-1, "planAt", 0).due(0, "planAt", 1);
        run.due(1, "days", 1).due(22, "plan", 0, 1).due(0, "planAt", 0).due(0, "cow", 0, 4);
        for (int k = 0; k < 6; k++) {
            run.due(60, "days", 60);
        }
        run.due(37, "days", 37).due(398, "now", 0).due(35, "plan", 0, 2).due(-1, "plan", 0, 3).due(1, "planAt", 0);
        run.due(1, "days", 1).due(16, "plan", 0, 1).due(-1, "plan", 0, 2).due(1, "days", 1).due(-1, "plan", 0, 1).due(0, "planAt", 0);
        // Talk makes it STALE for her on the second DAY.
        run = start("plans and talk", "farm f;farm g;cow a f 10 9 9;cow b g 10 9 9;news p plain 8;news q plain 4;hedge f g 1;hears 1;");
        run.due(0, "tell", 1, 0).due(32, "plan", 0, 2).due(0, "planAt", 0).due(0, "planAt", 1).due(46, "plan", 0, 3);
    }

    private static void planTies() {
        // She is CURDLED throughout: all give nothing, and the least NEWS that she can be told comes first.
        Run run = start("plans of the curdled", "farm f;cow a f 9 2 3;news x war 0;news y plain 9 lie;hears 2;").due(0, "tell", 0, 0);
        run.due(0, "plan", 0, 3).due(1, "planAt", 0).due(0, "planAt", 1).due(0, "planAt", 2);
        run.due(0, "tell", 0, 1).due(0, "plan", 0, 2).due(-1, "planAt", 0).due(0, "planAt", 1);
        run = start("plans of the dry", "farm f;cow a f 9 1 3;news x war 0;news y plain 9 lie;").due(0, "tell", 0, 1).due(0, "find", 1);
        run.due(0, "plan", 0, 3).due(-1, "planAt", 0).due(-1, "planAt", 1).due(-1, "planAt", 2);
        // NEWS of no worth come ahead of none.
        run = start("none is behind all", "farm f;cow a f 9 1 3;news w war 9;news x plain 0;news y weather 0;news z plain 0;hears 1;");
        run.due(27, "plan", 0, 3).due(1, "planAt", 0).due(1, "planAt", 1).due(1, "planAt", 2);
    }

    private static void allKnow() {
        String ring = "farm f;farm g;farm h;cow a f 1 9 2;cow b g 1 9 9;cow c h 1 9 9;news x plain 1;hedge f g 1;hedge g h ";
        Run run = start("all know", ring + "4;");
        run.due(-1, "allKnow", 0).due(0, "tell", 0, 0).due(3, "allKnow", 0).due(0, "now", 0).due(-1, "allKnow", 1).due(-1, "allKnow", -1);
        run.due(3, "days", 3).due(3, "news", 0, 5).due(3, "allKnow", 0).due(1, "days", 1).due(4, "allKnow", 0).due(9, "days", 9).due(13, "allKnow", 0);
        run = start("all know at once", "farm f;cow a f 1 9 1;cow b f 1 9 2;news x plain 1;");
        run.due(0, "tell", 0, 0).due(-1, "allKnow", 0).due(0, "tell", 1, 0).due(0, "allKnow", 0);
        // They know it now, but behind this DAY one has forgotten it.
        run.due(1, "days", 1).due(3, "news", 0, 5).due(-1, "allKnow", 0);
        run = start("no cows", "farm f;news x plain 1;").due(-1, "allKnow", 0);
        run = start("never", ring.replace("hedge f g 1;hedge g h ", "hedge f g 1;")).due(0, "tell", 0, 0).due(-1, "allKnow", 0);
        run = start("all over", ring + "9;");
        for (int k = 0; k < 6; k++) {
            run.due(60, "days", 60);
        }
        run.due(36, "days", 36).due(0, "tell", 0, 0).due(-1, "allKnow", 0).due(4, "days", 4).due(-1, "allKnow", 0);
        run.due(0, "tell", 0, 0).due(0, "tell", 1, 0).due(0, "tell", 2, 0).due(7, "news", 0, 5).due(-1, "allKnow", 0);
        // Three that keep it for a DAY have it at once behind DAY 209, when 5, 6 and 7 divide 210; 200 DAYS are looked at.
        run = start("200 days", "farm f;farm g;farm h;farm i;cow a f 1 9 30;cow b f 1 9 1;cow c g 1 9 30;cow d h 1 9 1;cow e i 1 9 1;"
            + "news x plain 1;hedge f g 5;hedge g h 6;hedge g i 7;");
        run.due(0, "tell", 0, 0).due(9, "days", 9).due(-1, "allKnow", 0).due(1, "days", 1).due(209, "allKnow", 0);
        run.due(60, "days", 60).due(209, "allKnow", 0);
    }

    private static void parting() {
        Run run = start("parting", "farm a;farm b;farm c;farm d;hedge a b 1;hedge b c 9;hedge c d 2;hedge a c 3;");
        run.due(-1, "parted").due(2, "part", 0, 1).due(0b11, "parted").due(2, "part", 1, 0).due(1, "part", 0, 3).due(0b100, "parted");
        run.due(2, "part", 0, 2).due(0b1001, "parted").due(-1, "part", 0, 0).due(-1, "part", 0, 4).due(-1, "part", -1, 0).due(0b1001, "parted");
        run = start("parted already", "farm a;farm b;farm c;hedge a b 1;").due(0, "part", 0, 2).due(0, "parted").due(1, "part", 0, 1).due(1, "parted");
        run = start("all hedges", "farm a;farm b;farm c;farm d;hedge a b 1;hedge a c 1;hedge a d 1;hedge b c 1;hedge b d 1;hedge c d 1;");
        run.due(3, "part", 0, 3).due(0b111, "parted").due(3, "part", 1, 2).due(0b11001, "parted").due(3, "part", 2, 3).due(0b101010, "parted");
        run.tape("").due(0, "dairy").due(0b101010, "parted").due(-1, "part", 0, 1);
    }

    private static void tasting() {
        Run run = start("tasting", "farm f;cow a f 10 1 3;cow b f 20 9 3;news p plain 3;news q plain 3;news w war 1;news s weather 9;"
            + "news l plain 1 lie;news m plain 0;hears 2;");
        run.due(-1, "surely").due(-1, "ask");
        // By 13: p or q, alone or with weather or with the worthless one.
        run.tape(13).due(6, "tasted", 0).due(0, "surely").due(0, "ask").due(0, "count", 5);
        // By 16: p and q, or l alone or with weather or with m: 4 sets.
        run.tape(16).due(4, "tasted", 0).due(0, "surely").due(0, "ask");
        run.tape(0).due(6, "tasted", 0).due(4, "surely").due(0, "ask");
        run.tape(10).due(4, "tasted", 0).due(0, "surely").due(3, "ask");
        run.tape(19).due(2, "tasted", 0).due(16, "surely").due(0, "ask");
        run.tape(17).due(0, "tasted", 0).due(16, "surely").due(0, "ask").due(0, "count", 5);
        run.tape().due(-1, "tasted", 0).tape(13, 13).due(-1, "tasted", 0).due(0, "count", 5).due(16, "surely");
        run.tape(13).due(-1, "tasted", 2).due(0, "count", 5).tape(13).due(-1, "tasted", -1).due(0, "count", 5);
        // One that she has heard is in no set; there is room for one more.
        run.due(0, "tell", 0, 4).tape(19).due(2, "tasted", 0).due(0, "surely").due(0, "ask").tape(16).due(3, "tasted", 0).due(3, "ask");
        run.due(0, "tell", 0, 2).tape(0).due(1, "tasted", 0).due(0, "surely").due(0, "ask").tape(16).due(0, "tasted", 0);
        run.due(0, "find", 4).tape(0).due(-1, "tasted", 0).due(0, "count", 5);
        run = start("tasting without news", "farm f;cow a f 10 1 3;").tape(10).due(1, "tasted", 0).due(0, "surely").due(-1, "ask");
        run.tape(11).due(0, "tasted", 0).due(0, "surely");
        // Bytes are 0 to 255.
        run = start("tasting much", "farm f;cow a f 40 1 3;news p plain 20;news q plain 20;news r plain 20;news s plain 20;news t plain 20;"
            + "news u plain 20;hears 5;");
        run.tape(140).due(6, "tasted", 0).due(0, "surely").due(0, "ask");
        run = start("even ones", "farm f;cow a f 1 1 3;news p plain 0;news q plain 1;news r plain 1;hears 1;");
        run.tape(2).due(2, "tasted", 0).due(0, "surely").due(1, "ask").tape(1).due(2, "tasted", 0).due(0, "ask");
    }

    private static void dries() {
        Run run = start("dries", "farm f;cow a f 1 1 3;cow b f 1 2 3;cow c f 1 1 3;news p plain 1 lie;news q plain 1 lie;news r plain 1;");
        run.due(0, "dries", 0).due(-1, "dries", 2).due(-1, "dries", 3).due(-1, "dries", -1).due(0, "tell", 0, 0).due(0, "tell", 1, 0);
        run.due(1, "dries", 0).due(0, "now", 1).due(0, "cow", 0, 3).due(0, "tell", 0, 1).due(0, "tell", 1, 1).due(0, "tell", 2, 1);
        run.due(5, "dries", 1).due(0, "find", 0).due(-1, "dries", 0).due(1, "now", 1).due(6, "dries", 1).due(4, "days", 4).due(0, "dries", 1);
    }
}
