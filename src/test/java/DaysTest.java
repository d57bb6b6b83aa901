/** Promises 28 to 32: weeks of pails, what is ahead, draws and odds. */
public final class DaysTest {
    public static void main(String[] args) {
        pails();
        weeks();
        ahead();
        draws();
        odds();
        Run.finish();
    }

    private static Run start(String name, String text) {
        return new Run(name).tape(text).due(text.split(";").length, "dairy");
    }

    private static final String TWO = "farm f;farm g;cow a f 5 9 3;cow b f 1 9 3;cow c g 7 9 3;news p plain 3;news w war 0;";

    private static void pails() {
        Run run = start("pails", TWO);
        run.due(-1, "pails", 0, 0).due(-1, "pails", 0, -1).due(0, "tell", 0, 0).due(1, "days", 1).due(9, "pails", 0, 0).due(7, "pails", 1, 0);
        run.due(-1, "pails", 0, 1).due(-1, "pails", 2, 0).due(-1, "pails", -1, 0).due(29, "days", 29).due(9, "pails", 0, 0).due(6, "pails", 0, 29);
        run.due(-1, "pails", 0, 30).due(0, "tell", 1, 1).due(1, "days", 1).due(-1, "pails", 0, 0).due(6, "pails", 0, 1).due(5, "pails", 0, 30);
        // What was kept of DAYS comes back when they are undone.
        run.due(60, "days", 60).due(-1, "pails", 0, 60).due(6, "pails", 0, 61).due(5, "undo");
        run.due(31, "now", 0).due(6, "pails", 0, 1).due(5, "pails", 0, 30).due(-1, "pails", 0, 0).due(4, "undo").due(3, "undo");
        run.due(9, "pails", 0, 0).due(30, "now", 0).due(2, "undo").due(9, "pails", 0, 0).due(-1, "pails", 0, 1);
        run.due(-1, "pails", 0, Integer.MIN_VALUE).due(-1, "pails", 0, Integer.MAX_VALUE);
    }

    private static void weeks() {
        Run run = start("weeks", TWO);
        run.tape(6).due(-1, "week", 0).due(0, "count", 5).due(0, "tell", 0, 0).due(3, "days", 3).due(0, "tell", 0, 0).due(1, "days", 1);
        // Pails by now: 9 6 6 7 (the NEWS were STALE).
        run.tape(9).due(0, "week", 0).tape(6).due(1, "week", 0).tape(6, 6, 7).due(1, "week", 0).tape(6, 7).due(2, "week", 0);
        run.tape(9, 6, 6, 7).due(0, "week", 0).tape(6, 7, 6).due(-1, "week", 0).tape(7, 6).due(-1, "week", 0).tape(7).due(3, "week", 0);
        run.tape(7).due(0, "week", 1).tape(7, 7, 7, 7).due(0, "week", 1).tape(7, 7, 7, 7, 7).due(-1, "week", 1);
        run.tape().due(-1, "week", 1).tape(7).due(-1, "week", 2).due(0, "count", 5).tape(7).due(-1, "week", -1);
        run.due(4, "days", 4).tape(7, 7, 7, 7, 7, 7, 7).due(0, "week", 1).tape(7, 7, 7, 7, 7, 7, 7, 7).due(-1, "week", 1).due(0, "count", 5);
        run.due(22, "days", 22).tape(9).due(0, "week", 0).due(1, "days", 1).tape(9).due(-1, "week", 0).tape(6).due(1, "week", 0);
        run.due(1, "days", 1).tape(6).due(2, "week", 0).due(60, "days", 60).tape(6).due(62, "week", 0).tape(7, 7).due(62, "week", 1);
        // Pails above 127 are bytes, too; those above 255 fit none.
        StringBuilder text = new StringBuilder("farm z;");
        for (char c = 'a'; c < 'a' + 7; c++) {
            text.append("cow ").append(c).append(" z ").append(c == 'a' ? 40 : 35).append(" 9 9;");
        }
        run = start("many pails", text + "news x plain 5;").due(1, "days", 1).tape(250).due(0, "week", 0).due(0, "tell", 0, 0).due(0, "tell", 1, 0);
        run.due(1, "days", 1).due(260, "pails", 0, 1).tape(4).due(-1, "week", 0).tape(250, 4).due(-1, "week", 0);
    }

    private static void ahead() {
        Run run = start("ahead", TWO);
        run.due(13, "ahead", 1).due(780, "ahead", 60).due(-1, "ahead", 0).due(-1, "ahead", 61).due(-1, "ahead", -1).due(0, "now", 0);
        run.due(0, "tell", 0, 0).due(16, "ahead", 1).due(29, "ahead", 2).due(0, "tell", 2, 1).due(9, "ahead", 1).due(9 + 6 * 6, "ahead", 7);
        run.due(9 + 36 + 13, "ahead", 8).due(0, "now", 3).due(0, "now", 0).due(-1, "pails", 0, 0).due(1, "undo");
        for (int k = 0; k < 6; k++) {
            run.due(60, "days", 60);
        }
        run.due(38, "days", 38).due(26, "ahead", 60).due(13, "ahead", 1).due(2, "days", 2).due(0, "ahead", 1);
    }

    private static void draws() {
        Run run = start("draws", "farm f;cow a f 5 9 9;news p plain 3;news q plain 4 lie;");
        run.due(-1, "drawn", 0, 1).due(-1, "drawn", 61, 1).due(-1, "drawn", -1, 1).due(-1, "undo");
        // One COW that may hear 3 can always be told, so the draws alone say how often she is.
        int x = 1;
        int told = 0;
        int found = 0;
        for (int day = 0; day < 40; day++) {
            x = x * 1103515245 + 12345;
            if ((x >>> 8) % 3 == 0) {
                x = x * 1103515245 + 12345;
                told++;
            }
            x = x * 1103515245 + 12345;
            if ((x >>> 8) % 12 == 0) {
                x = x * 1103515245 + 12345;
                found |= (x >>> 8) % 2 == 1 ? 2 : 0;
            }
        }
        run.due(40, "drawn", 40, 1).due(40, "now", 0).due(told, "now", 4).due(found, "now", 2).due(0, "cow", 0, 4).due(0, "undo");
        run.due(0, "now", 0).due(0, "now", 4).due(-1, "undo");
        run = start("no news", "farm f;cow a f 5 9 9;").due(-1, "drawn", 1, 1).due(-1, "odds", 0, 1, 1).due(0, "now", 0);
        run = start("no cows", "farm f;news p plain 3 lie;").due(60, "drawn", 60, 4).due(0, "now", 4).due(60, "now", 0).due(-1, "odds", 0, 1, 1);
        run = start("draws to the end", TWO);
        for (int k = 0; k < 6; k++) {
            run.due(60, "drawn", 60, k);
        }
        run.due(40, "drawn", 60, -7).due(400, "now", 0).due(0, "drawn", 60, 1).due(6, "undo").due(360, "now", 0);
    }

    private static void odds() {
        String text = "farm f;farm g;cow a f 5 1 9;cow b g 5 2 9;cow c f 5 9 9;news p plain 3 lie;news q scandal 4 lie;hedge f g 2;";
        Run run = start("odds", text);
        run.due(-1, "odds", -1, 1, 1).due(-1, "odds", 3, 1, 1).due(-1, "odds", 0, 0, 1).due(-1, "odds", 0, 31, 1);
        for (int c = 0; c < 3; c++) {
            int dried = 0;
            for (int k = 0; k < 30; k++) {
                NewsCows cows = new Run("one of the odds").tape(text).due(8, "dairy").due(20, "drawn", 20, Integer.MAX_VALUE - 9 + k).cows;
                dried += cows.cow(c, 1);
            }
            run.due(dried, "odds", c, 30, Integer.MAX_VALUE - 9);
        }
        run.due(0, "now", 0).due(0, "now", 4).due(-1, "undo").due(0, "odds", 2, 30, 3);
        run.due(0, "tell", 0, 0).due(0, "find", 0).due(30, "odds", 0, 30, 8).due(1, "odds", 0, 1, 8);
        for (int k = 0; k < 7; k++) {
            run.due(k < 6 ? 60 : 40, "days", 60);
        }
        run.due(30, "odds", 0, 30, 8).due(0, "odds", 1, 30, 8);
    }
}
