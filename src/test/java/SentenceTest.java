/** Promises 35, 36 and 5: sentences and of whom they may be said. */
public final class SentenceTest {
    private static final String DAIRY = "farm f;farm g;cow a f 10 1 3;cow b g 5 2 3;cow c f 7 9 1;cow d g 5 9 9;news p plain 6;"
        + "news l plain 2 lie;news w war 1;hears 2;";

    public static void main(String[] args) {
        ones();
        saidOf();
        joined();
        faults();
        within();
        tooLong();
        stays();
        Run.finish();
    }

    private static Run start(String name) {
        return new Run(name).tape(DAIRY).due(10, "dairy");
    }

    private static void said(Run run, String text, int ones, int... cows) {
        run.tape(text).due(ones, "sentence").due(0, "fault").due(0, "count", 5).due(cows.length, "said", -1);
        for (int k = 0; k < cows.length; k++) {
            run.due(cows[k], "said", k);
        }
        run.due(-1, "said", cows.length).due(-1, "said", -2).due(-1, "said", Integer.MAX_VALUE);
    }

    private static void ones() {
        Run run = start("ones").due(-1, "said", -1).due(-1, "said", 0);
        said(run, "dry", 1);
        said(run, "not dry", 2, 0, 1, 2, 3);
        said(run, "(dry)", 2);
        said(run, "not(not(dry))", 5);
        said(run, "at f or at g", 2, 0, 1, 2, 3);
        said(run, "( at f and\nmilk>7)or number=3", 4, 0, 3);
        run.tape("").due(0, "dairy").due(-1, "said", -1).tape("not dry").due(2, "sentence").due(0, "said", -1).due(-1, "said", 0);
    }

    private static void saidOf() {
        Run run = start("said of");
        run.due(0, "tell", 0, 0).due(0, "tell", 2, 1).due(0, "tell", 1, 2).due(0, "tell", 3, 1);
        said(run, "curdled", 1, 1);
        said(run, "at g", 1, 1, 3);
        said(run, "knows l", 1, 2, 3);
        said(run, "heard l", 1, 2, 3);
        said(run, "heard p", 1, 0);
        said(run, "milk > 13", 1, 0, 2);
        said(run, "milk = 14", 1, 2);
        said(run, "milk < 1", 1, 1);
        said(run, "number < 2", 1, 0, 1);
        said(run, "number > 002", 1, 3);
        said(run, "given = 0", 1, 0, 1, 2, 3);
        run.due(2, "days", 2);
        said(run, "heard l", 1);
        said(run, "knows l", 1, 3);
        said(run, "knows p", 1, 0);
        said(run, "given > 20", 1, 0, 2);
        said(run, "given = 17", 1, 3);
        run.due(0, "find", 1);
        said(run, "doubts = 1", 1, 3);
        said(run, "doubts > 0", 1, 3);
        said(run, "doubts < 1", 1, 0, 1, 2);
        said(run, "curdled", 1, 1);
        run.due(5, "days", 5);
        said(run, "curdled", 1);
        run = new Run("said of the dry").tape("farm f;cow a f 1 1 9;cow b f 1 2 9;news l plain 1 lie;").due(4, "dairy");
        run.due(0, "tell", 0, 0).due(0, "tell", 1, 0).due(0, "find", 0);
        said(run, "dry", 1, 0);
        said(run, "not dry", 2, 1);
        said(run, "milk = 0", 1, 0);
        // It is said by what is so when it is asked.
        run.due(0, "said", 0).due(2, "undo").due(0, "said", -1);
        run.tape("dry").due(1, "sentence").due(0, "said", -1).due(0, "find", 0).due(1, "said", -1).due(0, "said", 0);
    }

    private static void joined() {
        Run run = start("joined");
        said(run, "number=0 or number=1 and number=2", 3, 0);
        said(run, "(number=0 or number=1) and number=1", 4, 1);
        said(run, "number=1 and number=2 or number=3", 3, 3);
        said(run, "not number=0 and not number=1", 4, 2, 3);
        said(run, "not(number=0 and number=1)", 4, 0, 1, 2, 3);
        said(run, "not(number=0 or number=1)or number=0", 5, 0, 2, 3);
        said(run, "number=3 or number=2 or number=0 and at g", 4, 2, 3);
        said(run, "at f and number<2 and milk=10 or number=3 and at g and not at f", 7, 0, 3);
        said(run, "not not not at f", 4, 1, 3);
        said(run, "number=0 and(number=1 or number=0 and(number=2 or number=0))", 7, 0);
    }

    private static void faults() {
        Run run = start("faults");
        run.faulty(1, 0, "sentence", "").faulty(1, 2, "sentence", " \n").faulty(1, 0, "sentence", "or").faulty(1, 0, "sentence", ")");
        run.faulty(1, 0, "sentence", "x").faulty(1, 0, "sentence", "3").faulty(1, 0, "sentence", "hears p").faulty(1, 4, "sentence", "dry dry");
        run.faulty(1, 6, "sentence", "dry or").faulty(1, 7, "sentence", "dry and").faulty(1, 7, "sentence", "dry or or dry").faulty(1, 3, "sentence", "dry;");
        run.faulty(1, 4, "sentence", "(dry").faulty(1, 3, "sentence", "dry)").faulty(1, 1, "sentence", "()").faulty(1, 3, "sentence", "not");
        run.faulty(1, 4, "sentence", "not or dry").faulty(1, 5, "sentence", "milk 3").faulty(1, 5, "sentence", "milk>").faulty(1, 6, "sentence", "milk >a");
        run.faulty(1, 5, "sentence", "milk>1000").faulty(1, 5, "sentence", "milk>=3").faulty(1, 7, "sentence", "milk>3 4").faulty(1, 4, "sentence", "milk");
        run.faulty(3, 3, "sentence", "at p").faulty(3, 3, "sentence", "at a").faulty(3, 3, "sentence", "at x").faulty(1, 3, "sentence", "at not");
        run.faulty(1, 3, "sentence", "at 3").faulty(1, 2, "sentence", "at").faulty(3, 6, "sentence", "knows f").faulty(3, 6, "sentence", "heard a");
        run.faulty(3, 6, "sentence", "knows q or !").faulty(1, 6, "sentence", "knows dry").faulty(1, 6, "sentence", "heard !").faulty(1, 4, "sentence", "dry !");
        run.faulty(1, 0, "sentence", "dryy").faulty(1, 4, "sentence", "dry orr dry").faulty(1, 0, "sentence", "dry1");
    }

    private static void within() {
        Run run = start("within");
        said(run, "(((((((dry)))))))", 8);
        said(run, "not ".repeat(7) + "dry", 8, 0, 1, 2, 3);
        run.faulty(4, 8, "sentence", "((((((((dry))))))))").faulty(4, 32, "sentence", "not ".repeat(8) + "dry");
        run.faulty(4, 8, "sentence", "((((((((dry").faulty(4, 8, "sentence", "(((((((((").faulty(1, 8, "sentence", "((((((((or").faulty(1, 8, "sentence", "((((((((");
        run.faulty(1, 32, "sentence", "not ".repeat(8)).faulty(4, 16, "sentence", "not(not(not(not((dry)))))");
        said(run, "((((((dry))))))and(((((((dry)))))))", 15);
        String twenty = "dry or ".repeat(19);
        said(run, twenty + "at f", 20, 0, 2);
        run.faulty(4, 140, "sentence", "dry or ".repeat(20) + "at f").faulty(1, 140, "sentence", "dry or ".repeat(20) + "or").faulty(1, 140, "sentence", "dry or ".repeat(20));
        run.faulty(4, 140, "sentence", "dry or ".repeat(20) + "at x").faulty(4, 137, "sentence", twenty + "not dry").faulty(4, 134, "sentence", twenty + "(dry)");
        run.faulty(3, 136, "sentence", twenty + "at x").faulty(1, 140, "sentence", "dry or ".repeat(20) + "x");
        said(run, "not ".repeat(7) + "dry and " + "not ".repeat(7) + "dry and (not at f or at f)", 20, 0, 1, 2, 3);
        run.faulty(4, 94, "sentence", "not ".repeat(7) + "dry and " + "not ".repeat(7) + "dry and (not at f or at f  or (dry))");
    }

    private static void tooLong() {
        Run run = start("too long");
        said(run, "at g" + " ".repeat(196), 1, 1, 3);
        run.faulty(1, 200, "sentence", "at g" + " ".repeat(197)).faulty(1, 200, "sentence", " ".repeat(198) + "dry").faulty(1, 200, "sentence", " ".repeat(940));
        run.faulty(1, 199, "sentence", " ".repeat(199) + "dryer").faulty(1, 199, "sentence", " ".repeat(199) + "!x").faulty(1, 200, "sentence", " ".repeat(199) + "at f");
        run.faulty(3, 199, "sentence", " ".repeat(196) + "at fff").faulty(1, 200, "sentence", " ".repeat(200) + "!");
    }

    private static void stays() {
        Run run = start("stays");
        said(run, "at g", 1, 1, 3);
        run.faulty(1, 0, "sentence", "x").due(2, "said", -1).due(1, "said", 0).faulty(3, 3, "sentence", "at x").due(3, "said", 1);
        run.due(0, "tell", 0, 0).tape("heard p").due(1, "sentence").due(0, "fault").due(1, "said", -1).due(0, "undo").due(0, "said", -1);
        run.tape(DAIRY).due(10, "dairy").due(-1, "said", -1);
    }
}
