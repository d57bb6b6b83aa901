/** Promises 33, 34, 5 and 13: books, read, judged, lived and undone. */
public final class BookTest {
    private static final String DAIRY = "farm f;farm g;cow a f 10 1 3;cow b g 5 9 3;news p plain 6;news l plain 2 lie;news w war 1;"
        + "news s scandal 3 lie;hedge f g 1;hears 2;";

    public static void main(String[] args) {
        judged();
        lived();
        noLineLived();
        wrong();
        faults();
        lines();
        tooLong();
        Run.finish();
    }

    private static Run start(String name) {
        return new Run(name).tape(DAIRY).due(10, "dairy");
    }

    private static void judged() {
        Run run = start("judged").due(-1, "written", 0).due(-1, "written", 3);
        run.tape("").due(-1, "book", 0).due(0, "written", 0).due(0, "written", 1).due(0, "written", 2).due(0, "written", 3).due(-1, "undo");
        run.tape("a hears l; day 3;\nfound l; b hears p; day 60;").due(-1, "book", 0).due(0, "fault").due(0, "count", 5);
        run.due(0, "written", 0).due(5, "written", 1).due(63, "written", 2).due(1, "written", 3).due(-1, "written", 4).due(-1, "written", -1);
        run.due(0, "now", 0).due(0, "now", 1).due(0, "now", 2).due(0, "now", 4).due(-1, "undo");
        run.tape("day 1;").due(-1000, "book", 2).due(6, "count", 5).due(-1000, "book", -1).due(5, "written", 1).due(-1, "book", 0).due(1, "written", 1);
    }

    private static void lived() {
        Run run = start("lived").tape("a hears l;day 2;b hears p;found l;").due(-1, "book", 1).due(2, "now", 0).due(1, "now", 1).due(2, "now", 2);
        run.due(2, "now", 4).due(1, "cow", 1, 4).due(0, "written", 0).due(4, "written", 1).due(2, "written", 2).due(1, "written", 3);
        run.due(0, "undo").due(0, "now", 0).due(0, "now", 4).due(0, "now", 1).due(4, "written", 1).due(-1, "undo");
        // As far as it is not WRONG.
        run.tape("b hears p;day 1;b hears p;b hears p;day 9;").due(3, "book", 1).due(2, "written", 0).due(3, "written", 1).due(1, "written", 2);
        run.due(0, "written", 3).due(1, "now", 0).due(2, "now", 4).due(0, "undo").due(0, "now", 0).due(0, "now", 4);
    }

    private static void noLineLived() {
        Run run = new Run("no line lived, new object").due(-1, "book", 1).due(0, "written", 1).due(-1, "undo");
        run = start("no line lived").tape("").due(-1, "book", 1).due(0, "written", 0).due(0, "written", 1).due(-1, "undo");
        run.tape("  \n ").due(-1, "book", 1).due(0, "count", 5).due(-1, "undo");
        run.tape("found p;").due(0, "book", 1).due(11, "written", 0).due(0, "written", 1).due(-1, "undo");
        run.tape("found p;day 3;").due(0, "book", 1).due(0, "now", 0).due(-1, "undo");
        // One LINE is enough.
        run.tape("a hears p;found p;").due(1, "book", 1).due(1, "now", 4).due(0, "undo").due(0, "now", 4).due(-1, "undo");
        // The eight acts that are kept stay kept, the oldest with them.
        for (int k = 0; k < 8; k++) {
            run.due(1, "days", 1);
        }
        run.tape("").due(-1, "book", 1).tape("found p;").due(0, "book", 1).due(8, "written", 2).due(7, "undo").due(7, "now", 0);
        run.tape("").due(-1, "book", 1).tape("a hears l;").due(-1, "book", 1).due(1, "now", 4).due(7, "undo").due(0, "now", 4);
        for (int k = 6; k >= 0; k--) {
            run.due(k, "undo").due(k, "now", 0);
        }
        run.due(-1, "undo").due(0, "now", 0);
    }

    private static void wrong() {
        Run run = start("wrong");
        run.tape("a hears l;found l;a hears p;").due(2, "book", 0).due(1, "written", 0).due(2, "written", 1).due(1, "written", 3);
        run.tape("a hears p;a hears p;").due(1, "book", 0).due(2, "written", 0);
        run.tape("a hears p;a hears w;a hears l;").due(2, "book", 0).due(3, "written", 0);
        run.tape("found p;").due(0, "book", 0).due(11, "written", 0).due(0, "written", 1);
        run.tape("found s;day 3;found s;day 1;").due(2, "book", 0).due(12, "written", 0).due(3, "written", 2);
        run.tape("day 60;day 60;day 60;day 60;day 60;day 60;day 40;").due(-1, "book", 0).due(400, "written", 2);
        run.tape("day 60;day 60;day 60;day 60;day 60;day 60;day 41;").due(6, "book", 1).due(21, "written", 0).due(360, "written", 2);
        run.due(360, "now", 0).due(6, "written", 1).tape("day 40;a hears p;").due(-1, "book", 1).due(400, "now", 0);
        run.tape("day 1;").due(0, "book", 1).due(21, "written", 0).due(400, "written", 2);
    }

    private static void faults() {
        Run run = start("faults").tape("day 7;").due(-1, "book", 0);
        run.faulty(1, 0, "book", "hears p;", 0).faulty(1, 0, "book", ";", 1).faulty(1, 0, "book", "1 hears p;", 0).faulty(1, 0, "book", "farm f;", 0);
        run.faulty(3, 0, "book", "c hears p;", 0).faulty(3, 0, "book", "f hears p;", 1).faulty(3, 0, "book", "p hears a;", 0);
        run.faulty(1, 2, "book", "a heard p;", 0).faulty(1, 2, "book", "a p;", 0).faulty(1, 2, "book", "a ;", 0).faulty(1, 1, "book", "a", 0);
        run.faulty(3, 8, "book", "a hears a;", 0).faulty(3, 8, "book", "a hears x;", 1).faulty(1, 8, "book", "a hears lie;", 0);
        run.faulty(1, 10, "book", "a hears p p;", 0).faulty(1, 9, "book", "a hears p", 0).faulty(1, 11, "book", "a hears p \n", 0);
        run.faulty(3, 6, "book", "found f;", 0).faulty(1, 6, "book", "found 3;", 0).faulty(1, 5, "book", "found", 0).faulty(3, 6, "book", "found a;", 0);
        run.faulty(2, 4, "book", "day 0;", 0).faulty(2, 4, "book", "day 61;", 1).faulty(1, 4, "book", "day a;", 0).faulty(1, 4, "book", "day 1000;", 0);
        run.faulty(1, 6, "book", "day 3 3;", 0).faulty(1, 7, "book", "day 3; !", 1).faulty(3, 0, "book", "days 3;", 0).faulty(3, 0, "book", "dai 3;", 0);
        // A FAULT ahead of which all is well lets nothing be lived, and what was written stays.
        run.faulty(3, 9, "book", "day 5;   x hears p;", 1).due(0, "now", 0).due(-1, "undo").due(7, "written", 2);
        run.tape("q").due(-1000, "book", 7).due(3, "fault").tape("day 1;").due(-1, "book", 0).due(0, "fault");
    }

    private static void lines() {
        Run run = start("lines");
        String forty = "day 1;".repeat(40);
        run.tape(forty).due(-1, "book", 0).due(40, "written", 1).due(40, "written", 2);
        run.faulty(4, 240, "book", forty + "day 1;", 0).faulty(4, 241, "book", forty + " day", 0).faulty(4, 240, "book", forty + "a", 1);
        run.faulty(4, 240, "book", forty + "found x;", 0).faulty(3, 240, "book", forty + "x hears p;", 0).faulty(3, 240, "book", forty + "p", 0);
        run.faulty(1, 240, "book", forty + "farm;", 0).faulty(1, 240, "book", forty + ";", 0).faulty(1, 240, "book", forty + "7", 0);
        run.due(40, "written", 1);
    }

    private static void tooLong() {
        Run run = start("too long");
        run.tape("day 1;" + " ".repeat(394)).due(-1, "book", 0);
        run.faulty(1, 400, "book", "day 1;" + " ".repeat(395), 0).faulty(1, 400, "book", " ".repeat(396) + "day 1;", 0);
        run.faulty(1, 400, "book", " ".repeat(940), 1).faulty(2, 399, "book", " ".repeat(395) + "day 111;", 0);
        run.faulty(1, 399, "book", " ".repeat(395) + "day 1111;", 0).faulty(1, 400, "book", " ".repeat(399) + "a hears p;", 0);
        run.faulty(3, 399, "book", " ".repeat(399) + "abc hears p;", 0);
    }
}
