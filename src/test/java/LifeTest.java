/** Promises 6 to 14: COWS, NEWS, FARMS, telling, finding, DAYS, undoing. */
public final class LifeTest {
    static final String DAIRY = "farm e;farm w;cow a e 10 2 3;cow b e 8 1 5;cow c w 6 3 2;"
        + "news fair plain 6;news kiss scandal 4;news gun war 9;news sun weather 7;news rain weather 5 lie;"
        + "news gold plain 2 lie;news fib scandal 3 lie;hedge e w 2;hears 3;";

    public static void main(String[] args) {
        noSuchOnes();
        lookAround();
        telling();
        whatNewsGive();
        stale();
        weather();
        wars();
        finding();
        remembering();
        talk();
        talkIsAsItWasAhead();
        lastDay();
        undoing();
        Run.finish();
    }

    private static Run start(String name) {
        return new Run(name).tape(DAIRY).due(14, "dairy");
    }

    private static void noSuchOnes() {
        Run run = start("no such ones");
        run.due(Run.THROWS, "cow", -1, 0).due(Run.THROWS, "cow", 3, 0).due(Run.THROWS, "cow", 0, -1);
        run.due(Run.THROWS, "cow", 0, 8).due(Run.THROWS, "cow", Integer.MIN_VALUE, Integer.MAX_VALUE);
        run.due(Run.THROWS, "farm", -1, 0).due(Run.THROWS, "farm", 2, 0).due(Run.THROWS, "farm", 0, -1).due(Run.THROWS, "farm", 0, 4);
        run.due(-1, "news", -1, 0).due(-1, "news", 7, 0).due(-1, "news", 0, -1).due(-1, "news", 0, 6);
        run.due(-1, "now", -1).due(-1, "now", 6).due(-1, "tell", 3, 0).due(-1, "tell", 0, 7).due(-1, "tell", -1, -1);
        run.due(-1, "why", 3, 0).due(-1, "why", 0, 7).due(-1, "find", 7).due(-1, "find", -1);
        run.due(-1, "days", 0).due(-1, "days", 61).due(-1, "days", -5).due(0, "now", 0).due(-1, "undo");
    }

    private static void lookAround() {
        Run run = start("look around");
        run.due(0, "cow", 1, 0).due(1, "cow", 2, 0).due(10, "cow", 0, 6).due(6, "cow", 2, 6).due(0, "cow", 0, 7);
        run.due(3, "farm", 0, 0).due(4, "farm", 1, 0).due(18, "farm", 0, 2).due(6, "farm", 1, 2).due(1, "farm", 0, 3).due(1, "farm", 1, 3);
        run.due(0, "farm", 0, 1).due(1, "news", 4, 2).due(0, "news", 3, 2).due(9, "news", 2, 1).due(0, "news", 4, 3);
        run.due(0, "now", 1).due(0, "now", 2).due(0, "now", 3).due(0, "now", 4).due(0, "now", 5);
        run.due(2, "days", 2).due(20, "cow", 0, 7).due(36, "farm", 0, 1).due(12, "farm", 1, 1).due(48, "now", 3).due(2, "now", 0);
    }

    private static void telling() {
        Run run = start("telling");
        run.due(0, "why", 0, 0).due(0, "tell", 0, 0).due(2, "tell", 0, 0).due(2, "why", 0, 0).due(0, "tell", 0, 3).due(0, "tell", 0, 4);
        run.due(3, "tell", 0, 1).due(3, "why", 0, 1).due(2, "why", 0, 4).due(25, "cow", 0, 4).due(25, "cow", 0, 5).due(3, "now", 4);
        run.due(1, "news", 0, 4).due(1, "news", 0, 5).due(0, "tell", 2, 0).due(5, "news", 0, 4).due(5, "news", 0, 5).due(4, "now", 4);
        run.due(1, "days", 1).due(0, "cow", 0, 4).due(25, "cow", 0, 5).due(0, "news", 0, 4).due(5, "news", 0, 5).due(0, "why", 0, 0);
        // A dry COW is told nothing, whatever else stands against it.
        run = start("telling the dry").due(0, "tell", 1, 5).due(0, "find", 5).due(1, "why", 1, 5).due(1, "tell", 1, 0).due(1, "now", 4);
    }

    private static void whatNewsGive() {
        Run run = start("what news give");
        run.due(0, "tell", 0, 0).due(16, "cow", 0, 6);
        run.due(0, "tell", 0, 5).due(23, "cow", 0, 6);
        run.due(0, "tell", 0, 1).due(27, "cow", 0, 6);
        run.due(0, "tell", 2, 1).due(27, "cow", 0, 6).due(10, "cow", 2, 6);
        run.due(0, "tell", 1, 1).due(31, "cow", 0, 6).due(16, "cow", 1, 6).due(47, "farm", 0, 2).due(10, "cow", 2, 6);
        run.due(0, "tell", 1, 6).due(24, "cow", 1, 6);
        run.due(0, "find", 5).due(26, "cow", 0, 6);
        run.due(0, "find", 6).due(1, "cow", 1, 1).due(0, "cow", 1, 6).due(26, "cow", 0, 6);
        run.due(1, "days", 1).due(26, "cow", 0, 7).due(0, "cow", 1, 7).due(10, "cow", 2, 7).due(36, "now", 3);
        run = start("a lie of scandal by two").due(0, "tell", 0, 6).due(18, "cow", 0, 6).due(0, "tell", 1, 6);
        run.due(26, "cow", 0, 6).due(24, "cow", 1, 6).due(0, "find", 6).due(16, "cow", 0, 6).due(2, "now", 1);
    }

    private static void stale() {
        Run run = start("stale");
        run.due(0, "tell", 0, 5).due(17, "cow", 0, 6).due(0, "tell", 0, 6).due(25, "cow", 0, 6).due(1, "days", 1).due(0, "tell", 0, 5);
        run.due(13, "cow", 0, 6).due(0, "tell", 0, 6).due(17, "cow", 0, 6);
        run.due(0, "tell", 1, 6).due(21, "cow", 0, 6).due(24, "cow", 1, 6);
        run.due(0, "find", 5).due(19, "cow", 0, 6);
        // She keeps it for 3 DAYS; on the fourth it is new to her.
        String alone = "farm f;cow a f 10 2 3;news x plain 6;";
        run = new Run("stale yet").tape(alone).due(3, "dairy").due(0, "tell", 0, 0).due(3, "days", 3).due(1, "cow", 0, 5);
        run.due(0, "tell", 0, 0).due(13, "cow", 0, 6);
        run = new Run("new again").tape(alone).due(3, "dairy").due(0, "tell", 0, 0).due(4, "days", 4).due(0, "cow", 0, 5);
        run.due(0, "tell", 0, 0).due(16, "cow", 0, 6);
        // Talk makes it STALE too: it comes to the other FARM on DAY 1.
        run = start("stale by talk").due(0, "tell", 2, 0).due(2, "days", 2).due(1, "cow", 0, 5).due(0, "tell", 0, 0).due(13, "cow", 0, 6);
    }

    private static void weather() {
        Run run = start("weather");
        run.due(0, "tell", 0, 3).due(10, "cow", 0, 6).due(0, "tell", 1, 4).due(8, "cow", 1, 6).due(1, "days", 1);
        run.due(17, "cow", 0, 6).due(3, "cow", 1, 6).due(0, "find", 4).due(1, "cow", 1, 1);
        run = start("weather, found").due(0, "tell", 0, 4).due(1, "days", 1).due(5, "cow", 0, 6).due(0, "find", 4).due(5, "cow", 0, 6);
        run.due(1, "days", 1).due(10, "cow", 0, 6);
        run = start("weather of an old dairy").due(0, "tell", 0, 3).due(1, "days", 1).tape(DAIRY).due(14, "dairy").due(10, "cow", 0, 6);
        run = new Run("below nothing").tape("farm f;cow c f 5 9 9;news x weather 20 lie;news y plain 16;").due(4, "dairy");
        run.due(0, "tell", 0, 0).due(1, "days", 1).due(0, "cow", 0, 6).due(0, "tell", 0, 1).due(1, "cow", 0, 6);
        run.due(0, "tell", 0, 0).due(1, "cow", 0, 6).due(1, "days", 1).due(0, "cow", 0, 6);
    }

    private static void wars() {
        Run run = start("wars");
        run.due(0, "tell", 0, 0).due(0, "tell", 0, 2).due(1, "cow", 0, 2).due(0, "cow", 0, 6).due(0, "cow", 1, 2).due(0, "tell", 0, 1);
        run.due(0, "tell", 1, 1).due(16, "cow", 1, 6);
        run.due(6, "days", 6).due(1, "cow", 0, 2).due(0, "cow", 0, 6).due(1, "days", 1).due(0, "cow", 0, 2).due(10, "cow", 0, 6);
        // Talk brings the war to the others, but they have not heard of it.
        run.due(0, "cow", 0, 7).due(64, "cow", 1, 7).due(42, "cow", 2, 7);
        run = new Run("a war that is a lie").tape("farm f;cow c f 5 9 9;news x war 3 lie;").due(3, "dairy");
        run.due(0, "tell", 0, 0).due(0, "find", 0).due(1, "cow", 0, 2).due(0, "cow", 0, 6).due(1, "cow", 0, 3);
        run = new Run("a war to the dry").tape("farm f;cow c f 5 1 9;news x war 3 lie;").due(3, "dairy");
        run.due(0, "tell", 0, 0).due(0, "find", 0).due(1, "cow", 0, 1).due(1, "cow", 0, 2);
    }

    private static void finding() {
        Run run = start("finding");
        run.due(1, "find", 0).due(0, "find", 4).due(2, "find", 4).due(16, "now", 2).due(1, "news", 4, 3).due(0, "cow", 0, 3);
        run.due(0, "tell", 0, 5).due(0, "tell", 2, 5).due(0, "find", 5).due(1, "cow", 0, 3).due(0, "cow", 1, 3).due(1, "cow", 2, 3);
        run.due(48, "now", 2).due(0, "now", 1).due(0, "tell", 0, 6).due(0, "tell", 1, 6).due(0, "find", 6).due(3, "now", 1);
        run.due(2, "cow", 0, 3).due(1, "cow", 1, 3).due(1, "cow", 2, 3).due(60, "days", 60).due(3, "now", 1);
        run.due(0, "cow", 0, 7).due(8 + 59 * 6, "cow", 2, 7);
    }

    private static void remembering() {
        Run run = new Run("remembering").tape("farm f;cow a f 1 1 1;cow b f 1 1 30;news x plain 1;").due(4, "dairy");
        run.due(0, "tell", 0, 0).due(0, "tell", 1, 0).due(1, "days", 1).due(3, "news", 0, 5).due(1, "days", 1).due(2, "news", 0, 5);
        run.due(28, "days", 28).due(2, "news", 0, 5).due(1, "days", 1).due(0, "news", 0, 5);
        run.due(0, "tell", 0, 0).due(1, "days", 1).due(0, "tell", 0, 0).due(1, "days", 1).due(1, "news", 0, 5);
    }

    private static void talk() {
        Run run = new Run("talk").tape("farm f;farm g;farm h;cow a f 1 9 2;cow b g 1 9 9;cow c h 1 9 9;cow d f 1 9 9;"
            + "news x plain 1;news y war 1;hedge f g 2;hedge g h 3;").due(11, "dairy");
        run.due(0, "now", 5).due(0, "tell", 0, 0).due(0, "tell", 0, 1).due(1, "days", 1).due(1, "news", 0, 5).due(1, "now", 5);
        run.due(1, "days", 1).due(3, "news", 0, 5).due(3, "news", 1, 5).due(2, "now", 5).due(0, "news", 0, 4).due(0, "cow", 1, 2);
        run.due(1, "days", 1).due(0b110, "news", 0, 5).due(1, "now", 5);
        // Now b tells both of f; a, who forgot it, has it again.
        run.due(1, "days", 1).due(0b1111, "news", 0, 5).due(0, "now", 5).due(1, "days", 1).due(3, "now", 5);
        run.due(2, "now", 4).due(1, "days", 1).due(0b1111, "news", 0, 5);
    }

    private static void talkIsAsItWasAhead() {
        Run run = new Run("talk as it was").tape("farm f;farm g;farm h;cow a f 1 9 9;cow b g 1 9 9;cow c h 1 9 9;"
            + "news x plain 1;hedge f g 1;hedge g h 1;").due(9, "dairy");
        run.due(3, "now", 5).due(0, "tell", 0, 0).due(1, "days", 1).due(3, "news", 0, 5).due(1, "days", 1).due(7, "news", 0, 5);
        // A FARM without COWS hands nothing on; dry COWS do.
        run = new Run("no cows between").tape("farm f;farm g;farm h;cow a f 1 9 30;cow c h 1 9 9;news x plain 1;"
            + "hedge f g 1;hedge g h 1;").due(8, "dairy").due(0, "tell", 0, 0).due(9, "days", 9).due(1, "news", 0, 5);
        run = new Run("the dry talk").tape("farm f;farm g;cow a f 1 1 3;cow b g 1 1 3;news x plain 1 lie;hedge f g 1;").due(6, "dairy");
        run.due(0, "tell", 0, 0).due(0, "find", 0).due(1, "now", 1).due(1, "days", 1).due(3, "news", 0, 5).due(50, "days", 50);
        run.due(3, "news", 0, 5).due(1, "now", 1).due(0, "cow", 1, 3);
    }

    private static void lastDay() {
        Run run = start("the last day");
        for (int k = 0; k < 6; k++) {
            run.due(60, "days", 60);
        }
        run.due(360, "now", 0).due(40, "days", 60).due(400, "now", 0).due(9600, "now", 3).due(0, "days", 60).due(0, "days", 1);
        run.due(-1, "days", 61).due(400, "now", 0).due(0, "ahead", 60).due(6, "undo").due(360, "now", 0).due(40, "days", 40);
        run.due(0, "tell", 0, 0).due(16, "cow", 0, 6).due(0, "drawn", 5, 5).due(1, "now", 4).due(7, "undo").due(0, "now", 4);
    }

    private static void undoing() {
        Run run = start("undoing");
        run.due(0, "tell", 0, 5).due(0, "tell", 1, 5).due(2, "tell", 1, 5).due(0, "find", 5).due(2, "find", 5).due(1, "find", 0);
        run.due(2, "now", 1).due(5, "days", 5).due(5, "drawn", 5, 77).due(4, "undo").due(5, "now", 0).due(3, "undo").due(0, "now", 0);
        run.due(2, "now", 1).due(1, "cow", 0, 3).due(0, "now", 3).due(2, "undo").due(0, "now", 1).due(0, "now", 2).due(0, "cow", 0, 3);
        run.due(17, "cow", 0, 6).due(15, "cow", 1, 6).due(1, "undo").due(8, "cow", 1, 6).due(1, "now", 4).due(0, "undo").due(0, "now", 4);
        run.due(-1, "undo").due(0, "cow", 0, 5);
        for (int k = 1; k <= 12; k++) {
            run.due(k, "days", k);
        }
        run.due(78, "now", 0);
        for (int k = 7, day = 78; k >= 0; k--) {
            day -= k + 5;
            run.due(k, "undo").due(day, "now", 0);
        }
        run.due(-1, "undo").due(10, "now", 0).due(0, "tell", 0, 0).due(0, "undo").due(-1, "undo");
    }
}
