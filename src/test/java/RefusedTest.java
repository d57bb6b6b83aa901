import java.nio.charset.StandardCharsets;

/**
 * A call that is refused, or only asks, leaves all as it was: of two objects with the same life one makes that call,
 * and both must tell the same of themselves, and of what comes of it.
 */
public final class RefusedTest {
    private static final int[] WILD = {Integer.MIN_VALUE, -1000, -2, -1, 3, 4, 8, 10, 61, 400, 1000, Integer.MAX_VALUE};
    private static final String DAIRY = "farm f;farm g;cow a f 10 1 3;cow b g 5 2 9;cow c f 7 9 9;news p plain 6;news l plain 2 lie;news w war 1;"
        + "news r weather 4 lie;news s scandal 3 lie;hedge f g 2;hears 2;";

    public static void main(String[] args) {
        refusedForNoSuchOnes();
        refusedForNotAsTold();
        refusedForWhyNot();
        refusedTexts();
        asked();
        onDayFourHundred();
        Run.finish();
    }

    /** Lies are found, one is dry, one CURDLED, acts can be undone, an image is kept, all that tells the latest has something to tell. */
    private static Run life(String name, String text, int day) {
        Run run = new Run(name).tape(text);
        run.cows.dairy();
        run.till(day).due(0, "tell", 0, 1).due(0, "find", 1).due(0, "tell", 1, 3).due(0, "tell", 1, 0).due(0, "tell", 2, 2);
        if (day < 400) {
            run.due(1, "days", 1).due(0, "tell", 1, 0).due(0, "tell", 2, 4);
        }
        run.cows.best(1);
        run.cows.part(0, 1);
        run.cows.plan(1, 2);
        run.tape("at g or curdled").cows.sentence();
        run.tape(0).cows.tasted(2);
        run.tape("found r;found r;").cows.book(0);
        run.due(1, "image", 1);
        return run.tape("farm a;farm a;");
    }

    private static void leaves(long want, String call, int... args) {
        leaves(0, "farm a;farm a;", want, call, args);
    }

    private static void leaves(int day, String text, long want, String call, int... args) {
        String name = "on DAY " + day + " with '" + text + "' " + Run.written(call, args);
        Run run = life(name, DAIRY, day).tape(text);
        Run other = life(name, DAIRY, day).tape(text);
        int fault = run.cows.fault();
        int size = run.cows.count(5);
        run.due(want, call, args);
        boolean reads = call.equals("dairy") || call.equals("sentence") || call.equals("tasted") || call.equals("week") || call.equals("book") && want != -1000;
        if (!call.equals("dairy") && !call.equals("sentence") && !call.equals("book") || want == -1000) {
            run.due(fault, "fault");
        }
        run.due(reads ? 0 : size, "count", 5);
        Run.alike(name + " what is so", Look.around(other.cows), Look.around(run.cows));
        Run.alike(name + " what was told", Look.last(other.cows), Look.last(run.cows));
        Run.alike(name + " what comes of it", Look.behind(other.cows), Look.behind(run.cows));
    }

    private static void refusedForNoSuchOnes() {
        for (int wrong : WILD) {
            leaves(Run.THROWS, "cow", wrong, 0);
            leaves(Run.THROWS, "farm", wrong, 0);
            if (wrong != 3 && wrong != 4) {
                leaves(Run.THROWS, "cow", 0, wrong);
                leaves(-1, "news", wrong, 0);
                leaves(-1, "now", wrong);
                leaves(-1, "tell", 1, wrong);
                leaves(-1, "find", wrong);
                leaves(-1, "why", 1, wrong);
                leaves(-1, "allKnow", wrong);
                leaves(-1, "dries", wrong);
            }
            leaves(-1, "tell", wrong, 0);
            leaves(-1, "why", wrong, 0);
            leaves(-1, "best", wrong);
            leaves(-1, "honest", wrong);
            leaves(-1, "least", wrong, 0);
            leaves(-1, "plan", wrong, 1);
            leaves(-1, "part", 0, wrong);
            leaves(-1, "part", wrong, 1);
            leaves(-1, "tasted", wrong);
            leaves(-1, "week", wrong);
            leaves(-1, "pails", wrong, 0);
            leaves(-1, "odds", wrong, 1, 1);
            leaves(0, "image", wrong);
            leaves(0, "restore", wrong);
        }
        leaves(0, "restore", 0);
    }

    private static void refusedForNotAsTold() {
        for (int wrong : new int[] {Integer.MIN_VALUE, -1, 0, 61, 100, Integer.MAX_VALUE}) {
            leaves(-1, "days", wrong);
            leaves(-1, "ahead", wrong);
            leaves(-1, "drawn", wrong, 1);
            leaves(-1, "odds", 1, wrong, 1);
            leaves(-1, "plan", 1, wrong);
        }
        for (int wrong : new int[] {Integer.MIN_VALUE, -1, 15, 940, Integer.MAX_VALUE}) {
            leaves(0, "end", wrong);
        }
        leaves(-1, "odds", 1, 31, 1);
        leaves(-1, "plan", 1, 4);
        leaves(-1, "least", 1, -1);
        leaves(-1, "least", 1, 1000);
        leaves(-1, "least", 1, 999);
        leaves(-1, "part", 1, 1);
        leaves(-1, "pails", 0, 1);
        leaves(-1, "pails", 0, -1);
        leaves(-1, "planAt", 2);
        leaves(-1, "written", 4);
        leaves(-1, "count", 6);
        leaves(-1, "said", 9);
        leaves(0, " ".repeat(921), -1, "feed", 1, 2, 3, 4, 5);
        leaves(0, " ".repeat(940), -1, "feed", 1, 2, 3, 4, 5);
        leaves(0, "", -1, "tasted", 1);
        leaves(0, "ab", -1, "tasted", 1);
        leaves(0, "c", 0, "tasted", 1);
        leaves(0, "", -1, "week", 0);
        leaves(0, "abcdefgh", -1, "week", 0);
        leaves(0, "c", -1, "week", 0);
        leaves(0, "day 1;", -1000, "book", 2);
        leaves(0, "day 1;", -1000, "book", -1);
    }

    private static void refusedForWhyNot() {
        leaves(1, "tell", 0, 0);
        leaves(2, "tell", 1, 0);
        leaves(1, "find", 0);
        leaves(2, "find", 1);
        leaves(-1, "best", 0);
        leaves(-1, "honest", 0);
        leaves(-1, "least", 0, 0);
        leaves(-1, "dries", 0);
        leaves(-1, "dries", 1);
        leaves(0, "a", -1, "tasted", 0);
        leaves(0, "", 2, "why", 1, 0);
        // Of a BOOK that is WRONG at its first LINE nothing is lived; what is written of it is told again.
        Run run = life("a wrong BOOK", DAIRY, 0).tape("a hears p;day 9;").due(0, "book", 1).tape("found r;found r;").due(1, "book", 0).tape("farm a;farm a;");
        Run other = life("no BOOK", DAIRY, 0);
        Run.alike("a wrong BOOK", Look.around(other.cows) + Look.last(other.cows) + Look.behind(other.cows), Look.around(run.cows) + Look.last(run.cows) + Look.behind(run.cows));
    }

    private static void refusedTexts() {
        leaves(0, "!", -1, "dairy");
        leaves(0, "farm f;farm f;", -13, "dairy");
        leaves(0, "farm x;hears 6;", -14, "dairy");
        leaves(0, "farm x;farm y;farm z;farm u;farm v;", -29, "dairy");
        leaves(0, "farm x;cow y x 1 1 1;news z war 1;hedge x x 1;", -43, "dairy");
        leaves(0, " ".repeat(901), -901, "dairy");
        leaves(0, "day 1;b hears s;!", -18, "book", 1);
        leaves(0, "day 1;day 0;", -12, "book", 1);
        leaves(0, "day 1;x hears s;", -8, "book", 1);
        leaves(0, "day 1;".repeat(41), -242, "book", 1);
        leaves(0, " ".repeat(401), -402, "book", 1);
        leaves(0, "", -1, "sentence");
        leaves(0, "dry or at x", -11, "sentence");
        leaves(0, "dry or milk", -12, "sentence");
        leaves(0, "dry or ".repeat(20) + "dry", -141, "sentence");
        leaves(0, "dry" + " ".repeat(198), -201, "sentence");
    }

    /** What is asked by "would" changes nothing but what these calls themselves tell the latest. */
    private static void asked() {
        String[] calls = {"best", "honest", "allKnow", "dries", "ahead", "why", "plan", "least", "part", "odds", "cow", "news", "farm", "pails", "said", "count"};
        int[][] args = {{2}, {2}, {0}, {4}, {60}, {2, 0}, {2, 3}, {1, 1}, {1, 0}, {1, 30, 7}, {1, 6}, {0, 5}, {0, 2}, {0, 0}, {-1}, {5}};
        for (int k = 0; k < calls.length; k++) {
            Run run = life(calls[k], DAIRY, 0);
            Run other = life(calls[k], DAIRY, 0);
            Run.answer(run.cows, calls[k], args[k]);
            Run.alike(calls[k] + " asked", Look.around(other.cows) + Look.behind(other.cows), Look.around(run.cows) + Look.behind(run.cows));
        }
        // Neither does a BOOK that is only judged, nor what is tasted, nor a week.
        Run run = life("judged", DAIRY, 0).tape("day 9;found r;day 3;").due(-1, "book", 0).tape(5).due(0, "tasted", 2).tape("a".getBytes(StandardCharsets.ISO_8859_1)).due(-1, "week", 1);
        Run other = life("not judged", DAIRY, 0);
        Run.alike("judged", Look.around(other.cows) + Look.behind(other.cows), Look.around(run.cows) + Look.behind(run.cows));
    }

    private static void onDayFourHundred() {
        leaves(400, "", 0, "days", 60);
        leaves(400, "", 0, "drawn", 60, 1);
        leaves(400, "", 0, "ahead", 60);
        leaves(400, "", -1, "plan", 1, 1);
        leaves(400, "", -1, "allKnow", 0);
        leaves(400, "", 1, "tell", 0, 0);
    }
}
