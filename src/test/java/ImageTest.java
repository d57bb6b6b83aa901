/** Promises 37 and 38: images. */
public final class ImageTest {
    private static final String DAIRY = "farm f;farm g;cow a f 10 2 3;cow b g 5 2 3;news p plain 6;news l plain 2 lie;news w war 1;hedge f g 1;hears 2;";

    public static void main(String[] args) {
        places();
        allIsKept();
        restStays();
        Run.finish();
    }

    private static Run start(String name) {
        return new Run(name).tape(DAIRY).due(9, "dairy");
    }

    private static void places() {
        Run run = start("places");
        run.due(0, "restore", 0).due(0, "restore", 1).due(0, "restore", 2).due(0, "restore", -1).due(0, "image", 2).due(0, "image", -1);
        run.due(1, "image", 1).due(0, "restore", 0).due(3, "days", 3).due(1, "image", 0).due(4, "days", 4);
        run.due(1, "restore", 1).due(0, "now", 0).due(1, "restore", 0).due(3, "now", 0).due(45, "now", 3).due(1, "restore", 1).due(0, "now", 0);
        run.due(0, "restore", 2).due(2, "days", 2).due(1, "image", 0).due(9, "days", 9).due(1, "restore", 0).due(2, "now", 0);
        run = new Run("an empty one").due(1, "image", 0).tape(DAIRY).due(9, "dairy").due(5, "days", 5).due(1, "restore", 0);
        run.due(0, "count", 0).due(0, "count", 1).due(0, "count", 2).due(0, "count", 3).due(3, "count", 4).due(0, "now", 0).due(-1, "said", -1);
    }

    private static void allIsKept() {
        Run run = start("all is kept").due(0, "tell", 0, 1).due(0, "tell", 1, 1).due(0, "find", 1).due(1, "days", 1).due(0, "tell", 0, 0).due(0, "tell", 0, 2);
        run.tape("at g or curdled").due(2, "sentence").due(1, "image", 0).tape("farm x;cow y x 3 3 3;news z weather 4;hears 5;").due(4, "dairy");
        run.due(0, "tell", 0, 0).due(40, "days", 40).tape("dry").due(1, "sentence").due(1, "restore", 0);
        run.due(2, "count", 0).due(2, "count", 1).due(3, "count", 2).due(1, "count", 3).due(2, "count", 4).due(1, "now", 0).due(2, "now", 2);
        run.due(4, "now", 4).due(19, "now", 3).due(12, "pails", 0, 0).due(7, "pails", 1, 0).due(5, "cow", 0, 4).due(7, "cow", 0, 5).due(1, "cow", 0, 2);
        run.due(1, "cow", 0, 3).due(1, "cow", 1, 3).due(2, "said", -1).due(0, "said", 0).due(12, "farm", 0, 1).due(1, "now", 5);
        // Names are as kept, too.
        run.tape("b hears p;").due(-1, "book", 0).faulty(3, 0, "book", "y hears z;", 0).tape("at f").due(1, "sentence");
    }

    private static void restStays() {
        Run run = start("the rest stays");
        run.due(1, "image", 0).due(0, "tell", 0, 0).due(1, "days", 1).due(1, "part", 0, 1).due(20, "best", 0).due(3, "told");
        run.due(17, "plan", 0, 1).due(1, "planAt", 0).tape(10).due(1, "tasted", 0).tape("day 5;found p;").due(1, "book", 0);
        run.faulty(1, 0, "sentence", "!").tape("day").due(1, "restore", 0).due(3, "count", 5).due(3, "told").due(1, "planAt", 0);
        run.due(1, "parted").due(0, "surely").due(0, "ask").due(11, "written", 0).due(6, "written", 2).due(1, "fault").due(-1, "undo");
        run.due(0, "now", 0).due(2, "days", 2).due(0, "undo").due(0, "now", 0);
        // An image undoes nothing and keeps what can be undone.
        run.due(0, "tell", 0, 0).due(1, "image", 1).due(0, "undo").due(0, "now", 4).due(1, "restore", 1).due(1, "now", 4).due(-1, "undo");
    }
}
