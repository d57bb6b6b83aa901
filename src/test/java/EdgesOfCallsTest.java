import java.io.IOException;

/** The sentences of promises 1 to 39 that name an edge, each by a run of its own. */
public final class EdgesOfCallsTest {
    private static final int MIN = Integer.MIN_VALUE;
    private static final int MAX = Integer.MAX_VALUE;
    private static final String FULL = "farm e;farm f;farm g;farm h;cow a e 1 1 1;cow b e 2 1 1;cow c f 3 1 1;cow d f 4 1 1;cow i g 5 1 1;"
        + "cow j g 6 1 1;cow k h 7 1 1;cow l h 8 1 1;news m plain 1;news n plain 2;news o plain 3;news p plain 4;news q plain 5;"
        + "news r scandal 6 lie;news s scandal 7 lie;news t war 8 lie;news u weather 9 lie;news v plain 10 lie;"
        + "hedge e f 1;hedge e g 1;hedge e h 1;hedge f g 1;hedge f h 1;hedge g h 1;hears 5;";
    private static final String TWO = "farm f;farm g;cow a f 10 1 3;cow b g 5 2 3;news p plain 6;news l plain 2 lie;news w war 1;hedge f g 1;hears 2;";

    public static void main(String[] args) throws IOException {
        Quotes.find(args);
        newObject();
        feed();
        end();
        dairy();
        fault();
        cow();
        news();
        farm();
        now();
        tell();
        find();
        days();
        undo();
        undoOfEight();
        why();
        best();
        least();
        told();
        honest();
        plan();
        planAt();
        allKnow();
        part();
        parted();
        tasted();
        surely();
        ask();
        dries();
        week();
        pails();
        ahead();
        drawn();
        odds();
        oddsOfTwentyDays();
        book();
        bookLived();
        written();
        sentence();
        said();
        image();
        restore();
        count();
        lastCall();
        Quotes.allPromises(39);
        Quotes.finish();
    }

    private static Run with(Run run, String text) {
        return run.whole(text.split(";").length, "dairy", text);
    }

    /** Of TWO, the first COW is dry by the lie l. */
    private static Run withDry(Run run) {
        return with(run, TWO).due(0, "tell", 0, 1).due(0, "find", 1).due(1, "now", 1);
    }

    private static void newObject() {
        Run run = Quotes.promise(1, "An empty DAIRY; an empty tape.");
        for (int what = 0; what < 6; what++) {
            run.due(what == 4 ? 3 : 0, "count", what).due(0, "now", what);
        }
        run.due(Run.THROWS, "cow", 0, 0).due(Run.THROWS, "farm", 0, 0).due(-1, "news", 0, 0).due(-1, "said", -1).due(0, "fault").due(0, "end", 1);
        // DAYS go by in an empty DAIRY, too.
        run.due(0, "ahead", 60).due(60, "days", 60).due(60, "now", 0).due(0, "now", 3).due(0, "undo").due(0, "now", 0);
    }

    private static void feed() {
        Run run = Quotes.promise(2, "Twenty bytes come behind the tape, of each number the highest first: how many it has");
        run.due(20, "feed", 0x6661726d, 0x2061623b, 0x6e657773, 0x206e2077, 0x61722037).due(40, "feed", 0x206c6965, 0x3b686561, 0x72732032, 0x3b202020, 0x20202020);
        run.due(3, "dairy").due(0, "fault").due(7, "news", 0, 1).due(1, "news", 0, 2).due(2, "count", 4);
        // Each byte counts from 0 to 255.
        run.due(20, "feed", 0x6661726d, 0x20613bff, 0x80808080, MIN, -1).due(-8, "dairy").due(1, "fault");
        run = Quotes.promise(2, "NONE, and none come, if it would have more than 940");
        run.tape("farm ab;" + " ".repeat(912)).due(920, "count", 5).due(940, "feed", MIN, MIN, MIN, MIN, MIN).due(-1, "feed", 0, 0, 0, 0, 0).due(940, "count", 5);
        run.due(1, "end", 921).due(-1, "feed", 0, 0, 0, 0, 0).due(921, "count", 5).due(1, "end", 920).due(940, "feed", 0, 0, 0, 0, 0).due(1, "end", 900).due(1, "dairy");
        run = new Run("47 times");
        for (int k = 1; k <= 47; k++) {
            run.due(20 * k, "feed", 0x20202020, 0x20202020, 0x20202020, 0x20202020, 0x20202020);
        }
        run.due(-1, "feed", 0, 0, 0, 0, 0).due(-1, "feed", 0x20202020, 0, 0, 0, 0).due(940, "count", 5).due(1, "end", 900).due(0, "dairy").due(0, "fault");
    }

    private static void end() {
        Run run = Quotes.promise(3, "The tape has its first n bytes alone: true; false, if it has not so many, or n is below 0.");
        run.due(1, "end", 0).due(0, "end", 1).due(0, "end", -1).due(0, "end", MIN).due(0, "end", MAX).tape("farm a;farm b;").due(0, "end", 15).due(14, "count", 5);
        run.due(0, "end", -1).due(14, "count", 5).due(1, "end", 14).due(14, "count", 5).due(1, "end", 13).due(0, "end", 14).due(1, "end", 7).due(7, "count", 5);
        // What comes then comes behind those.
        run.due(27, "feed", 0x6661726d, 0x20633b20, 0x20202020, 0x20202020, 0x20202020).due(2, "dairy").due(0, "count", 5).due(0, "end", 1).due(1, "end", 0);
    }

    private static void dairy() {
        Run run = Quotes.promise(4, "The tape (empty then, here and below) is the DAIRY now: how many LINES");
        run.due(0, "dairy").tape(TWO).due(9, "dairy").due(0, "count", 5).due(0, "dairy").due(0, "count", 0).tape("farm a;").due(1, "dairy").due(0, "count", 5);
        // Below: the others that read the tape leave none of it, whatever they answer.
        run.tape("dry").due(1, "sentence").due(0, "count", 5).tape("!").due(-1, "sentence").due(0, "count", 5).tape("day 1;").due(-1, "book", 0).due(0, "count", 5);
        run.tape("!").due(-2, "book", 1).due(0, "count", 5).tape(1).due(-1, "tasted", 0).due(0, "count", 5).tape(1, 2, 3).due(-1, "tasted", 0).due(0, "count", 5);
        run.tape(1).due(-1, "week", 0).due(0, "count", 5).tape(1).due(-1, "week", 9).due(0, "count", 5).tape("farm a;farm a;").due(-13, "dairy").due(0, "count", 5);
        run = Quotes.promise(4, "-1 less the place of a FAULT: it stays");
        with(run, TWO).due(0, "tell", 0, 0).whole(1, "sentence", "at f").tape("!").due(-1, "dairy").tape("farm z;!").due(-8, "dairy").tape(" ".repeat(901)).due(-901, "dairy");
        run.due(2, "count", 0).due(2, "count", 1).due(3, "count", 2).due(1, "count", 3).due(2, "count", 4).due(1, "now", 4).due(16, "cow", 0, 6).due(1, "said", -1);
        // Its NAMES stay, too, and none of those that were read comes.
        run.fault(3, "sentence", "at ^z").whole(1, "sentence", "at g").due(1, "said", 0).due(0, "undo").due(0, "now", 4);
    }

    private static void fault() {
        Run run = Quotes.promise(5, "The kind of the FAULT of the latest dairy(), book() or sentence() (a book() of -1000 leaves it); 0 without one and ahead of any.");
        run.due(0, "fault").tape("farm a;farm a;").due(-13, "dairy").due(3, "fault").due(-1000, "book", 2).due(3, "fault").due(-1000, "book", -1).due(3, "fault");
        run.tape(1).due(-1, "tasted", 0).tape(1).due(-1, "week", 0).due(3, "fault").due(1, "image", 0).due(1, "restore", 0).due(3, "fault").tape(TWO).due(9, "dairy").due(0, "fault");
        run.tape("day 0;").due(-6, "book", 0).due(2, "fault").due(-1, "book", 1).due(0, "fault").tape("x").due(-1, "sentence").due(1, "fault").tape("found p;").due(0, "book", 0);
        run.due(0, "fault").tape("day 1;".repeat(41)).due(-242, "book", 1).due(4, "fault").tape("dry").due(1, "sentence").due(0, "fault");
        run.tape("at x").due(-4, "sentence").due(3, "fault").due(0, "dairy").due(0, "fault");
    }

    private static void cow() {
        Run run = with(Quotes.promise(6, "NoSuchElementException: no such ones."), FULL);
        for (int c = 0; c < 8; c++) {
            run.due(c / 2, "cow", c, 0).due(c + 1, "cow", c, 6);
        }
        for (int wrong : new int[] {-1, 8, MIN, MAX, MIN + 8}) {
            run.due(Run.THROWS, "cow", wrong, 0).due(Run.THROWS, "cow", 0, wrong).due(Run.THROWS, "cow", wrong, wrong);
        }
        run = with(Quotes.promise(6, "4 NEWS that she heard on this DAY, as bits, 5 NEWS that she REMEMBERS, as bits"), FULL);
        for (int n = 5; n < 10; n++) {
            run.due(0, "tell", 7, n);
        }
        run.due(0b1111100000, "cow", 7, 4).due(0b1111100000, "cow", 7, 5).due(0, "cow", 6, 4).till(1).due(0, "cow", 7, 4).due(0b1111100000, "cow", 7, 5).due(0, "cow", 6, 5);
        run.due(0b1111100000, "cow", 0, 5);
    }

    private static void news() {
        Run run = with(Quotes.promise(7, "NONE: no such ones."), FULL).due(10, "news", 9, 1).due(1, "news", 9, 2).due(1, "news", 0, 1).due(0, "news", 0, 2);
        for (int wrong : new int[] {-1, 10, MIN, MAX}) {
            run.due(-1, "news", wrong, 0).due(-1, "news", 0, wrong);
        }
        run.due(-1, "news", 0, 6).due(0, "news", 9, 5);
        run = with(Quotes.promise(7, "4 COWS that heard it on this DAY, as bits, 5 COWS that REMEMBER it, as bits"), FULL);
        for (int c = 0; c < 8; c++) {
            run.due((1 << c) - 1, "news", 9, 4).due(0, "tell", c, 9);
        }
        run.due(255, "news", 9, 4).due(255, "news", 9, 5).due(0, "news", 8, 4).till(1).due(0, "news", 9, 4).due(255, "news", 9, 5);
    }

    private static void farm() {
        Run run = with(Quotes.promise(8, "NoSuchElementException: no such ones."), FULL).due(3, "farm", 0, 0).due(192, "farm", 3, 0).due(15, "farm", 3, 2).due(0b110100, "farm", 3, 3);
        for (int wrong : new int[] {-1, 4, MIN, MAX}) {
            run.due(Run.THROWS, "farm", wrong, 0).due(Run.THROWS, "farm", 0, wrong).due(Run.THROWS, "farm", wrong, wrong);
        }
        with(run, "farm a;").due(0, "farm", 0, 0).due(0, "farm", 0, 1).due(0, "farm", 0, 2).due(0, "farm", 0, 3).due(Run.THROWS, "farm", 1, 0);
    }

    private static void now() {
        Run run = with(Quotes.promise(9, "NONE for another what."), FULL).due(63, "now", 5).due(-1, "now", 6).due(-1, "now", -1).due(-1, "now", MIN).due(-1, "now", MAX);
        for (int c = 0; c < 8; c++) {
            run.due(0, "tell", c, 9);
        }
        run.due(0, "find", 9).due(255, "now", 1).due(512, "now", 2).due(8, "now", 4).till(1).due(0, "now", 3).due(1, "now", 0);
    }

    private static void tell() {
        Run run = with(Quotes.promise(10, "A COW is TOLD: 0, or why not; NONE: no such ones."), TWO);
        for (int wrong : new int[] {-1, MIN, MAX}) {
            run.due(-1, "tell", wrong, 0).due(-1, "tell", 0, wrong).due(-1, "tell", wrong, wrong);
        }
        run.due(-1, "tell", 2, 0).due(-1, "tell", 0, 3).due(0, "now", 4).due(-1, "undo").due(0, "tell", 0, 0).due(2, "tell", 0, 0).due(0, "tell", 0, 1).due(3, "tell", 0, 2);
        run.due(2, "now", 4).due(3, "cow", 0, 4).due(0, "find", 1).due(1, "tell", 0, 2).due(-1, "tell", 0, 3).due(2, "now", 4).due(0, "tell", 1, 2).due(3, "now", 4);
        with(run, "farm f;cow a f 1 1 1;").due(-1, "tell", 0, 0);
        with(run, "news x war 1;").due(-1, "tell", 0, 0);
    }

    private static void find() {
        Run run = with(Quotes.promise(11, "NEWS are FOUND to be a lie: 0, or why not; NONE: no such ones."), TWO);
        run.due(-1, "find", 3).due(-1, "find", -1).due(-1, "find", MIN).due(-1, "find", MAX).due(1, "find", 0).due(0, "now", 2).due(-1, "undo");
        run.due(0, "find", 1).due(2, "now", 2).due(2, "find", 1).due(0, "undo").due(0, "now", 2).due(0, "find", 1);
        with(run, "farm f;").due(-1, "find", 0);
    }

    private static void days() {
        Run run = with(Quotes.promise(12, "n (1 to 60) DAYS go by: how many did; NONE: not as told."), TWO);
        run.due(-1, "days", 0).due(-1, "days", -1).due(-1, "days", 61).due(-1, "days", MIN).due(-1, "days", MAX).due(0, "now", 0).due(1, "days", 1).due(60, "days", 60).due(61, "now", 0);
        run.till(341).due(59, "days", 59).due(400, "now", 0).due(7, "undo").till(342).due(58, "days", 60).due(0, "days", 1).due(-1, "days", 0).due(-1, "days", 61).due(400, "now", 0);
    }

    private static void undo() {
        Run run = Quotes.promise(13, "The latest of tell(), find() that was done, days() above 0, drawn() above 0, a BOOK that was lived is undone");
        with(run, TWO).due(-1, "undo").due(0, "tell", 0, 0).due(0, "undo").due(0, "now", 4).due(-1, "undo").due(0, "find", 1).due(0, "undo").due(0, "now", 2).due(-1, "undo");
        run.due(1, "days", 1).due(0, "undo").due(0, "now", 0).due(-1, "undo").due(1, "drawn", 1, 4).due(0, "undo").due(0, "now", 0).due(-1, "undo");
        run.tape("day 3;").due(-1, "book", 1).due(0, "undo").due(0, "now", 0).due(-1, "undo").tape("day 3;found p;").due(1, "book", 1).due(3, "now", 0).due(0, "undo").due(0, "now", 0);
        // What was not done, or was asked alone, is no act: the telling is the latest one.
        run = with(new Run("no acts"), TWO).due(0, "find", 1).due(0, "tell", 0, 0).due(2, "tell", 0, 0).due(-1, "tell", 9, 0).due(1, "find", 0).due(2, "find", 1).due(-1, "find", 9);
        run.due(-1, "days", 0).due(-1, "days", 61).due(-1, "drawn", 0, 1).due(-1, "drawn", 61, 1).due(-1000, "book", 2).tape("day 3;").due(-1, "book", 0).tape("day 0;").due(-6, "book", 1);
        run.due(-1, "book", 1).tape("found p;day 1;").due(0, "book", 1).due(21, "ahead", 1).due(0, "odds", 1, 1, 1).due(18, "best", 0).due(16, "honest", 0).due(1, "image", 0);
        run.whole(1, "sentence", "dry").due(1, "undo").due(0, "now", 4).due(2, "now", 2).due(0, "said", -1).due(0, "undo").due(0, "now", 2).due(-1, "undo");
        // On DAY 400 neither days() nor drawn() is above 0.
        run = with(new Run("no DAYS left"), TWO).till(400).due(0, "days", 5).due(0, "drawn", 5, 5).tape("day 1;").due(0, "book", 1).due(6, "undo").due(360, "now", 0);
    }

    private static void undoOfEight() {
        Run run = with(Quotes.promise(13, "how many more can be (8 at most are kept); NONE: none is."), FULL);
        for (int k = 0; k < 10; k++) {
            run.due(0, "tell", k % 8, k / 8);
        }
        for (int k = 7; k >= 0; k--) {
            run.due(k, "undo").due(k + 2, "now", 4);
        }
        run.due(-1, "undo").due(2, "now", 4);
        // Five acts, two of them undone, and six more: the eight latest of nine are kept.
        for (int k = 0; k < 5; k++) {
            run.due(1, "days", 1);
        }
        run.due(4, "undo").due(3, "undo").due(3, "now", 0);
        for (int k = 0; k < 6; k++) {
            run.due(1, "days", 1);
        }
        for (int k = 7; k >= 0; k--) {
            run.due(k, "undo").due(k + 1, "now", 0);
        }
        run.due(-1, "undo").due(1, "now", 0);
    }

    private static void why() {
        Run run = with(Quotes.promise(14, "Why a COW can't be told NEWS now (0: she can); NONE: no such ones."), TWO);
        for (int wrong : new int[] {-1, MIN, MAX}) {
            run.due(-1, "why", wrong, 0).due(-1, "why", 0, wrong);
        }
        run.due(-1, "why", 2, 0).due(-1, "why", 0, 3).due(0, "why", 1, 2).due(0, "now", 4).due(0, "tell", 0, 0).due(2, "why", 0, 0).due(0, "why", 0, 1).due(0, "tell", 0, 1);
        run.due(3, "why", 0, 2).due(0, "find", 1).due(1, "why", 0, 0).due(1, "why", 0, 2).due(-1, "why", 0, 3).due(2, "now", 4);
    }

    private static void best() {
        Run run = withDry(Quotes.promise(15, "BEST for a COW: what she GIVES; NONE: she is dry, no such one."));
        run.due(-1, "best", 0).due(-1, "best", -1).due(-1, "best", 2).due(-1, "best", MIN).due(-1, "best", MAX).due(-1, "told").due(13, "best", 1).due(3, "told").due(-1, "best", 0).due(3, "told");
        run.due(0, "cow", 1, 4).due(1, "now", 4);
        with(run, "farm f;cow a f 10 1 3;").due(10, "best", 0).due(0, "told");
    }

    private static void least() {
        Run run = with(Quotes.promise(16, "LEAST for a COW, p (0 to 999): how many lies; NONE: by none, she is dry, no such ones."), TWO);
        run.due(-1, "least", 0, -1).due(-1, "least", 0, MIN).due(-1, "least", 0, MAX).due(-1, "least", 0, 1000).due(-1, "least", 0, 999).due(-1, "least", 0, 24).due(-1, "told");
        run.due(-1, "least", 2, 0).due(-1, "least", -1, 0).due(-1, "least", MIN, 0).due(-1, "least", MAX, 0).due(0, "least", 0, 0).due(0, "told").due(1, "least", 0, 23).due(3, "told");
        withDry(run).due(-1, "least", 0, 0).due(3, "told").due(0, "least", 1, 5).due(0, "told");
    }

    private static void told() {
        Run run = Quotes.promise(17, "Which NEWS by the latest best(), least() that was not NONE, as bits; NONE ahead of any.");
        run.due(-1, "told").due(-1, "best", 0).due(-1, "told");
        with(run, TWO).due(-1, "told").due(-1, "best", 2).due(-1, "least", 0, 24).due(16, "honest", 0).due(-1, "told").due(23, "best", 0).due(3, "told").due(0, "least", 0, 10).due(0, "told");
        run.due(23, "best", 0).due(-1, "least", 0, 24).due(3, "told").due(16, "honest", 0).due(3, "told").due(-1, "best", 2).due(3, "told").due(0, "dairy").due(3, "told");
        // The highest bit is that of NEWS 9.
        with(run, FULL).due(48, "best", 0).due(0b1001111000, "told");
    }

    private static void honest() {
        Run run = with(Quotes.promise(18, "What BEST would be without lies; NONE: she is dry, no such one."), TWO).due(16, "honest", 0).due(0, "find", 1).due(16, "honest", 0).due(18, "best", 0);
        run.due(-1, "honest", -1).due(-1, "honest", 2).due(-1, "honest", MIN).due(-1, "honest", MAX);
        withDry(run).due(-1, "honest", 0).due(11, "honest", 1);
        with(run, "farm f;cow a f 10 9 3;news l plain 20 lie;").due(10, "honest", 0).due(35, "best", 0).due(0, "tell", 0, 0).due(35, "honest", 0);
        with(run, "farm f;cow a f 10 9 3;").due(10, "honest", 0);
    }

    private static void plan() {
        Run run = with(Quotes.promise(19, "PLAN of n (1 to 3) DAYS for a COW: what she GIVES in all; NONE: no such ones, fewer DAYS are left."), TWO);
        for (int wrong : new int[] {-1, MIN, MAX}) {
            run.due(-1, "plan", wrong, 1).due(-1, "plan", 0, wrong);
        }
        run.due(-1, "plan", 2, 1).due(-1, "plan", 0, 0).due(-1, "plan", 0, 4).due(-1, "planAt", 0).due(17, "plan", 0, 1).due(33, "plan", 0, 2).due(46, "plan", 0, 3);
        run.due(0, "planAt", 0).due(0, "planAt", 1).due(1, "planAt", 2).due(0, "now", 0).due(0, "now", 4).till(397).due(46, "plan", 0, 3);
        run.till(398).due(-1, "plan", 0, 3).due(33, "plan", 0, 2).till(399).due(-1, "plan", 0, 2).due(17, "plan", 0, 1).till(400).due(-1, "plan", 0, 1);
        withDry(run).due(0, "plan", 0, 1).due(0, "plan", 0, 3);
    }

    private static void planAt() {
        Run run = Quotes.promise(20, "Which NEWS on its k-th DAY (from 0) by the latest plan() that was not NONE; NONE: none on it, none such, or ahead of any.");
        run.due(-1, "planAt", 0).due(-1, "planAt", -1).due(-1, "planAt", MIN).due(-1, "planAt", MAX).due(-1, "plan", 0, 1).due(-1, "planAt", 0);
        with(run, TWO).due(33, "plan", 0, 2).due(0, "planAt", 0).due(1, "planAt", 1).due(-1, "planAt", 2).due(-1, "planAt", 3).due(-1, "planAt", -1).due(-1, "planAt", MIN);
        run.due(-1, "planAt", MAX).due(-1, "plan", 0, 4).due(0, "planAt", 0).due(17, "plan", 0, 1).due(1, "planAt", 0).due(-1, "planAt", 1).due(0, "dairy").due(1, "planAt", 0);
        withDry(run).due(0, "plan", 0, 2).due(-1, "planAt", 0).due(-1, "planAt", 1);
    }

    private static void allKnow() {
        Run run = with(Quotes.promise(21, "ALL know NEWS: the DAY; NONE: not so soon, no COWS, no such ones."), TWO).due(-1, "allKnow", 0).due(0, "tell", 0, 0).due(0, "allKnow", 0);
        run.due(-1, "allKnow", 1).due(-1, "allKnow", -1).due(-1, "allKnow", 3).due(-1, "allKnow", MIN).due(-1, "allKnow", MAX).due(0, "now", 0).due(1, "news", 0, 5);
        with(run, "farm f;news x war 1;").due(-1, "allKnow", 0);
        with(run, "farm f;cow a f 1 1 1;").due(-1, "allKnow", 0);
    }

    private static void part() {
        Run run = with(Quotes.promise(22, "PARTED: how many hedges; NONE: no such ones, alike."), TWO).due(1, "part", 0, 1).due(1, "part", 1, 0).due(-1, "part", 0, 0).due(-1, "part", 1, 1);
        for (int wrong : new int[] {-1, 2, MIN, MAX}) {
            run.due(-1, "part", wrong, 0).due(-1, "part", 0, wrong).due(-1, "part", wrong, wrong);
        }
        with(run, FULL).due(3, "part", 0, 3).due(3, "part", 2, 1).due(-1, "part", 3, 3).due(-1, "part", 4, 0);
    }

    private static void parted() {
        Run run = Quotes.promise(23, "Which, as bits, by the latest part() that was not NONE; NONE ahead of any.");
        run.due(-1, "parted").due(-1, "part", 0, 1).due(-1, "parted");
        with(run, FULL).due(-1, "part", 0, 0).due(-1, "parted").due(3, "part", 2, 3).due(0b101010, "parted").due(-1, "part", 0, 4).due(0b101010, "parted");
        with(run, "farm a;farm b;").due(0b101010, "parted").due(0, "part", 0, 1).due(0, "parted").due(-1, "part", 1, 1).due(0, "parted");
    }

    private static void tasted() {
        Run run = with(Quotes.promise(24, "TASTED for a COW: how many sets; NONE: not as told, she is dry, no such one."), TWO);
        run.tape(10).due(1, "tasted", 0).tape(16).due(1, "tasted", 0).tape(23).due(1, "tasted", 0).tape(0).due(3, "tasted", 0).tape(24).due(0, "tasted", 0).tape(255).due(0, "tasted", 0);
        run.tape().due(-1, "tasted", 0).tape(10, 10).due(-1, "tasted", 0).tape(new byte[940]).due(-1, "tasted", 0).due(0, "count", 5);
        for (int wrong : new int[] {-1, 2, MIN, MAX}) {
            run.tape(10).due(-1, "tasted", wrong).due(0, "count", 5);
        }
        withDry(run).tape(0).due(-1, "tasted", 0).due(0, "count", 5).tape(5).due(1, "tasted", 1).due(0, "now", 0).due(1, "now", 4);
    }

    private static void surely() {
        Run run = Quotes.promise(25, "NEWS in each of these sets, as bits, by the latest tasted() above 0; NONE ahead of any.");
        run.due(-1, "surely").tape(1).due(-1, "tasted", 0).due(-1, "surely");
        with(run, TWO).due(-1, "surely").tape(99).due(0, "tasted", 0).due(-1, "surely").tape(0).due(3, "tasted", 0).due(4, "surely").tape(99).due(0, "tasted", 0).due(4, "surely");
        run.tape().due(-1, "tasted", 0).due(4, "surely").tape(1).due(-1, "tasted", 7).due(4, "surely").tape(23).due(1, "tasted", 0).due(3, "surely").tape(10).due(1, "tasted", 0).due(0, "surely");
        run.tape(23).due(1, "tasted", 0).due(0, "dairy").due(3, "surely");
        with(run, FULL).tape(48).due(1, "tasted", 0).due(0b1001111000, "surely");
    }

    private static void ask() {
        Run run = Quotes.promise(26, "ASK by that; NONE: there are no NEWS, or ahead of any.");
        run.due(-1, "ask");
        with(run, TWO).tape(99).due(0, "tasted", 0).due(-1, "ask").tape().due(-1, "tasted", 0).due(-1, "ask").tape(0).due(3, "tasted", 0).due(0, "ask").tape(99).due(0, "tasted", 0).due(0, "ask");
        with(run, "farm f;cow a f 10 1 3;").tape(10).due(1, "tasted", 0).due(-1, "ask").due(0, "surely");
    }

    private static void dries() {
        Run run = Quotes.promise(27, "COWS that would be dry, if NEWS were found to be a lie now (those that are not yet), as bits; NONE: they can't be found, no such ones.");
        with(run, TWO).due(0, "dries", 1).due(-1, "dries", 0).due(-1, "dries", 2).due(-1, "dries", 3).due(-1, "dries", -1).due(-1, "dries", MIN).due(-1, "dries", MAX);
        run.due(0, "tell", 0, 1).due(0, "tell", 1, 1).due(1, "dries", 1).due(0, "now", 1).due(0, "now", 2).due(0, "find", 1).due(-1, "dries", 1);
        with(run, FULL);
        for (int c = 0; c < 8; c++) {
            run.due(0, "tell", c, 9);
        }
        run.due(255, "dries", 9).due(0, "tell", 3, 8).due(8, "dries", 8).due(0, "find", 8).due(255 - 8, "dries", 9).till(1).due(255 - 8, "dries", 9).due(0, "find", 9).due(255, "now", 1);
    }

    private static void week() {
        Run run = with(Quotes.promise(28, "WEEK of a FARM: the DAY; NONE: none fits, not as told, no such one."), TWO).tape(10).due(-1, "week", 0).till(9).tape(10).due(0, "week", 0);
        run.tape(5).due(0, "week", 1).tape(5).due(-1, "week", 0).tape(10, 10, 10, 10, 10, 10, 10).due(0, "week", 0).tape(10, 10, 10, 10, 10, 10, 10, 10).due(-1, "week", 0);
        run.tape().due(-1, "week", 0).tape(new byte[940]).due(-1, "week", 0).due(0, "count", 5);
        for (int wrong : new int[] {-1, 2, MIN, MAX}) {
            run.tape(10).due(-1, "week", wrong).due(0, "count", 5);
        }
        // A FARM without COWS has pails of 0; those of 0 and 255 are bytes like others.
        with(run, "farm f;").till(2).tape(0, 0).due(0, "week", 0).tape(0, 0, 0).due(-1, "week", 0).tape(255).due(-1, "week", 0);
    }

    private static void pails() {
        Run run = Quotes.promise(29, "What a FARM had on a DAY of the last 30; NONE: another DAY, no such one.");
        with(run, "farm e;farm f;cow a f 10 9 1;news x plain 6;").due(-1, "pails", 1, 0).due(-1, "pails", 1, -1);
        for (int day = 0; day < 45; day++) {
            if (day % 3 == 0) {
                run.due(0, "tell", 0, 0);
            }
            run.due(1, "days", 1).due(-1, "pails", 1, day - 30);
        }
        lastThirty(run);
        // What other DAYS put in their places goes with them.
        run.due(0, "tell", 0, 0).due(40, "days", 40).due(10, "pails", 1, 84).due(-1, "pails", 1, 54).due(10, "pails", 1, 55).due(7, "undo").due(6, "undo");
        lastThirty(run);
        for (int wrong : new int[] {-1, 2, MIN, MAX}) {
            run.due(-1, "pails", wrong, 44);
        }
    }

    private static void lastThirty(Run run) {
        for (int day = 15; day < 45; day++) {
            run.due(day % 3 == 0 ? 16 : 10, "pails", 1, day).due(0, "pails", 0, day);
        }
        run.due(-1, "pails", 1, 14).due(-1, "pails", 1, 45).due(-1, "pails", 1, -1).due(-1, "pails", 1, MIN).due(-1, "pails", 1, MAX);
    }

    private static void ahead() {
        Run run = Quotes.promise(30, "What all COWS would give in n (1 to 60) DAYS from now on, if nobody is told anything (till all are over); NONE: not as told.");
        with(run, TWO).due(15, "ahead", 1).due(900, "ahead", 60).due(-1, "ahead", 0).due(-1, "ahead", 61).due(-1, "ahead", -1).due(-1, "ahead", MIN).due(-1, "ahead", MAX);
        run.due(0, "tell", 0, 0).due(21, "ahead", 1).due(36, "ahead", 2).due(0, "now", 0).due(0, "now", 3).due(1, "cow", 0, 4).due(-1, "pails", 0, 0).till(340).due(900, "ahead", 60);
        run.till(341).due(885, "ahead", 60).till(399).due(15, "ahead", 1).due(15, "ahead", 60).till(400).due(0, "ahead", 1).due(-1, "ahead", 61);
    }

    private static void drawn() {
        Run run = with(Quotes.promise(31, "n (1 to 60) DAYS DRAWN by a seed: how many went by; NONE: not as told, no NEWS."), TWO);
        run.due(-1, "drawn", 0, 1).due(-1, "drawn", -1, 1).due(-1, "drawn", 61, 1).due(-1, "drawn", MIN, 1).due(-1, "drawn", MAX, 1).due(0, "now", 0).due(0, "now", 4).due(-1, "undo");
        run.due(1, "drawn", 1, MIN).due(1, "now", 0).due(60, "drawn", 60, MAX).due(61, "now", 0).due(1, "undo").due(0, "undo").due(0, "now", 4).till(399).due(1, "drawn", 60, 2);
        int tells = run.cows.now(4);
        run.due(400, "now", 0).due(0, "drawn", 60, 2).due(0, "drawn", 1, 1).due(tells, "now", 4).due(-1, "drawn", 61, 1).due(-1, "drawn", 0, 1);
        with(run, "farm f;cow a f 1 1 1;").due(-1, "drawn", 1, 1).due(0, "now", 0).due(-1, "undo");
        with(run, "farm f;news x war 1;").due(60, "drawn", 60, 1).due(60, "now", 0).due(0, "now", 4);
    }

    private static void odds() {
        Run run = with(Quotes.promise(32, "NONE: no such ones, no NEWS."), TWO);
        for (int wrong : new int[] {-1, MIN, MAX}) {
            run.due(-1, "odds", wrong, 1, 1).due(-1, "odds", 0, wrong, 1);
        }
        run.due(-1, "odds", 2, 1, 1).due(-1, "odds", 0, 0, 1).due(-1, "odds", 0, 31, 1).due(0, "odds", 1, 30, 1).due(0, "now", 0).due(0, "now", 4).due(-1, "undo");
        withDry(run).due(1, "odds", 0, 1, 1).due(30, "odds", 0, 30, MAX).till(400).due(30, "odds", 0, 30, MIN).due(0, "odds", 1, 30, 1);
        with(run, "farm f;cow a f 1 1 1;").due(-1, "odds", 0, 1, 1);
        with(run, "farm f;news x war 1;").due(-1, "odds", 0, 1, 1);
    }

    /** What drawn() says of each seed, against odds(); the seeds go over the greatest int, and 19 or 21 DAYS would say something else. */
    private static void oddsOfTwentyDays() {
        Quotes.promise(32, "Of n (1 to 30) seeds x, x and 1, .. by how many a COW is dry behind 20 DAYS DRAWN from now on");
        int[] other = new int[2];
        for (int from : new int[] {MAX - 14, 1, -30, 1000, 777, 123456, -99999, 31337}) {
            int dried = dried(0, 20, from);
            other[0] += dried == dried(0, 19, from) ? 0 : 1;
            other[1] += dried == dried(0, 21, from) ? 0 : 1;
            with(new Run("20 DAYS from seed " + from), LIAR).due(dried, "odds", 0, 30, from).due(0, "now", 0);
            // On DAY 390 ten are left.
            with(new Run("10 DAYS from seed " + from), LIAR).till(390).due(dried(390, 20, from), "odds", 0, 30, from).due(390, "now", 0);
        }
        if (other[0] == 0 || other[1] == 0) {
            Run.fail("these seeds do not tell 20 DAYS from others");
        }
    }

    private static final String LIAR = "farm f;cow a f 5 1 30;cow b f 5 9 30;news p plain 3 lie;";

    private static int dried(int day, int days, int from) {
        int dried = 0;
        for (int k = 0; k < 30; k++) {
            Run run = with(new Run("seed " + (from + k)), LIAR).till(day);
            run.due(Math.min(days, 400 - day), "drawn", days, from + k);
            dried += run.cows.cow(0, 1);
        }
        return dried;
    }

    private static void book() {
        Run run = with(Quotes.promise(33, "the LINE that is WRONG; NONE: none; -2 less the place of a FAULT; -1000: another lives (the tape stays)"), TWO);
        run.due(-1, "book", 0).tape("found p;").due(0, "book", 0).tape("day 1;".repeat(39) + "found p;").due(39, "book", 0).tape("day 1;".repeat(40)).due(-1, "book", 0);
        run.tape("!").due(-2, "book", 0).tape("day 1;!").due(-8, "book", 1).tape(" ".repeat(401)).due(-402, "book", 1).tape("day 1;");
        for (int wrong : new int[] {-1, 2, MIN, MAX, -1000}) {
            run.due(-1000, "book", wrong).due(6, "count", 5);
        }
        run.due(-1, "book", 1).due(0, "count", 5).due(1, "now", 0).due(-1000, "book", 2).due(0, "count", 5);
    }

    private static void bookLived() {
        Run run = with(Quotes.promise(33, "it is judged, all staying as it is (lives 0), or lived as far as it is not WRONG (1)"), TWO);
        String text = "a hears l;b hears p;found l;day 2;a hears p;day 9;";
        run.tape(text).due(4, "book", 0).due(0, "now", 0).due(0, "now", 1).due(0, "now", 2).due(0, "now", 4).due(-1, "undo").tape(text).due(4, "book", 1);
        run.due(2, "now", 0).due(1, "now", 1).due(2, "now", 2).due(2, "now", 4).due(16, "now", 3).due(0, "undo").due(0, "now", 0).due(0, "now", 4).due(-1, "undo");
    }

    private static void written() {
        Run run = Quotes.promise(34, "Of the latest book() that had no FAULT (and was not -1000)");
        for (int what = -1; what < 5; what++) {
            run.due(-1, "written", what);
        }
        with(run, TWO).tape("!").due(-2, "book", 0).due(-1, "written", 0).due(-1000, "book", 2).due(-1, "written", 0).tape("day 3;found p;").due(1, "book", 0).due(11, "written", 0);
        run.tape("day 1;!").due(-8, "book", 1).due(11, "written", 0).due(1, "written", 1).due(3, "written", 2).due(-1000, "book", 9).due(1, "written", 1).due(0, "dairy").due(11, "written", 0);
        run.due(-1, "written", -1).due(-1, "written", 4).due(-1, "written", MIN).due(-1, "written", MAX).due(-1, "book", 0).due(0, "written", 0).due(0, "written", 2);
        run = with(Quotes.promise(34, "0 why it was WRONG (0: it was not; as for telling, 10 more as for finding; 21: fewer DAYS are left), 1 LINES that are not"), TWO);
        String[] text = {"", "a hears l;found l;a hears p;", "b hears p;b hears p;", "b hears p;b hears l;b hears w;", "found p;", "found l;found l;", "day 60;".repeat(6) + "day 41;"};
        int[] why = {0, 1, 2, 3, 11, 12, 21};
        int[] right = {0, 2, 1, 2, 0, 1, 6};
        for (int k = 0; k < text.length; k++) {
            run.tape(text[k]).due(why[k] == 0 ? -1 : right[k], "book", 0).due(why[k], "written", 0).due(right[k], "written", 1).due(k < 6 ? 0 : 360, "written", 2).due(k == 1 ? 1 : 0, "written", 3);
        }
        run.tape("day 60;".repeat(6) + "day 40;").due(-1, "book", 1).due(0, "written", 0).due(7, "written", 1).due(400, "written", 2).tape("day 1;").due(0, "book", 1).due(21, "written", 0);
        run.tape("b hears p;day 1;").due(1, "book", 0).due(1, "written", 1).due(400, "written", 2).due(0, "now", 4);
    }

    private static void sentence() {
        Run run = with(Quotes.promise(35, "The tape is the SENTENCE now: how many ONES (each not, bracket and other one); -1 less the place of a FAULT: it stays."), TWO);
        run.tape("dry").due(1, "sentence").tape("not dry").due(2, "sentence").tape("(dry)").due(2, "sentence").tape("not(not dry or(at f))and milk<3").due(7, "sentence");
        run.tape("at g").due(1, "sentence").due(1, "said", 0).due(-1, "sentence").due(1, "said", 0).tape("at f or !").due(-9, "sentence").due(1, "said", -1).due(1, "said", 0);
        run.tape("dry" + " ".repeat(198)).due(-201, "sentence").due(1, "said", 0).tape("at z").due(-4, "sentence").due(1, "said", -1);
    }

    private static void said() {
        Run run = Quotes.promise(36, "COWS of which it may be said: how many (k NONE), or the k-th. NONE: there is no SENTENCE, none such.");
        run.due(-1, "said", -1).due(-1, "said", 0);
        with(run, FULL).due(-1, "said", -1).due(-1, "said", 0).whole(1, "sentence", "milk > 2").due(6, "said", -1).due(2, "said", 0).due(7, "said", 5).due(-1, "said", 6);
        run.due(-1, "said", -2).due(-1, "said", MIN).due(-1, "said", MAX).whole(1, "sentence", "number < 999").due(8, "said", -1).due(7, "said", 7).due(-1, "said", 8);
        run.whole(1, "sentence", "dry").due(0, "said", -1).due(-1, "said", 0).due(0, "dairy").due(-1, "said", -1).whole(2, "sentence", "not dry").due(0, "said", -1).due(-1, "said", 0);
    }

    private static void image() {
        Run run = with(Quotes.promise(37, "DAIRY, all that is so and the SENTENCE are kept in place k (0, 1): true; false: no such one."), TWO);
        run.due(0, "image", -1).due(0, "image", 2).due(0, "image", MIN).due(0, "image", MAX).due(0, "restore", 0).due(0, "restore", 1).due(1, "image", 1).due(0, "restore", 0);
        run.whole(1, "sentence", "at g").due(3, "days", 3).due(1, "image", 0).due(0, "dairy").due(1, "restore", 1).due(0, "now", 0).due(-1, "said", -1).due(2, "count", 1);
        run.due(1, "restore", 0).due(3, "now", 0).due(1, "said", -1).due(45, "now", 3).due(0, "image", 2).due(7, "days", 7).due(1, "restore", 0).due(3, "now", 0);
        // The latest image of a place is kept alone.
        run.due(1, "days", 1).due(1, "image", 0).due(1, "restore", 1).due(0, "now", 0).due(1, "restore", 0).due(4, "now", 0);
    }

    private static void restore() {
        Run run = with(Quotes.promise(38, "They are as kept in place k (the tape, and what other calls told last, stays; nothing can be undone): true; false: no such one, or nothing is kept there."), TWO);
        run.due(0, "tell", 0, 0).due(0, "restore", 0).due(0, "restore", -1).due(0, "restore", 2).due(0, "restore", MIN).due(0, "restore", MAX).due(1, "now", 4).due(1, "image", 0);
        run.due(0, "restore", 1).due(1, "days", 1).due(15, "best", 1).due(17, "plan", 0, 1).due(1, "part", 0, 1).tape(10).due(1, "tasted", 0).tape("day 2;found p;").due(1, "book", 0);
        run.fault(1, "sentence", "^!").tape("abc").due(1, "restore", 0).due(0, "now", 0).due(1, "now", 4).due(1, "cow", 0, 4).due(0, "now", 3).due(-1, "said", -1).due(-1, "undo");
        run.due(3, "count", 5).due(3, "told").due(1, "planAt", 0).due(-1, "planAt", 1).due(1, "parted").due(0, "surely").due(0, "ask").due(11, "written", 0).due(3, "written", 2).due(1, "fault");
        // One that is refused leaves what can be undone.
        run.due(2, "days", 2).due(0, "restore", 1).due(0, "restore", 2).due(2, "now", 0).due(0, "undo").due(0, "now", 0).due(-1, "undo").due(1, "restore", 0).due(1, "now", 4);
    }

    private static void count() {
        Run run = with(Quotes.promise(39, "NONE for another what."), FULL).due(4, "count", 0).due(8, "count", 1).due(10, "count", 2).due(6, "count", 3).due(5, "count", 4).due(0, "count", 5);
        run.due(-1, "count", -1).due(-1, "count", 6).due(-1, "count", MIN).due(-1, "count", MAX).tape(new byte[940]).due(940, "count", 5).due(0, "end", 941).due(940, "count", 5);
    }

    private static void lastCall() {
        Run run = with(Quotes.whatItIs("An object is used for at most 512 calls after it has been made"), TWO);
        while (run.left() > 2) {
            run.due(0, "tell", 1, 0).due(0, "undo");
        }
        while (run.left() > 0) {
            run.due(5, "cow", 1, 6);
        }
    }
}
