/** Promises 1 to 5 and 39: the tape, a DAIRY's text and its FAULTS. */
public final class TextTest {
    public static void main(String[] args) {
        newObject();
        feedAndEnd();
        dairies();
        tokens();
        faultsOfNumbers();
        faultsOfNames();
        faultsOfMore();
        ends();
        tooLong();
        staysAfterFault();
        Run.finish();
    }

    private static void newObject() {
        Run run = new Run("new object");
        for (int what = 0; what < 4; what++) {
            run.due(0, "count", what);
        }
        run.due(3, "count", 4).due(0, "count", 5).due(-1, "count", 6).due(-1, "count", -1);
        run.due(0, "fault").due(-1, "told").due(-1, "planAt", 0).due(-1, "parted").due(-1, "surely");
        run.due(-1, "ask").due(-1, "written", 0).due(-1, "written", 1).due(-1, "undo").due(-1, "said", -1);
        run.due(0, "restore", 0).due(0, "restore", 1).due(0, "now", 0);
    }

    private static void feedAndEnd() {
        Run run = new Run("feed");
        for (int k = 1; k <= 47; k++) {
            run.due(20 * k, "feed", k, k, k, k, k);
        }
        run.due(-1, "feed", 1, 2, 3, 4, 5).due(940, "count", 5);
        run.due(0, "end", 941).due(0, "end", -1).due(940, "count", 5).due(1, "end", 940);
        run.due(1, "end", 921).due(-1, "feed", 0, 0, 0, 0, 0).due(921, "count", 5);
        run.due(1, "end", 920).due(940, "feed", 0, 0, 0, 0, 0);
        run.due(1, "end", 0).due(0, "count", 5).due(0, "end", 1).due(1, "end", 0);
        run.due(20, "feed", 0x6661726d, 0x20613b66, 0x61726d0a, 0x20623b20, 0x0a202020);
        run.due(2, "dairy").due(2, "count", 0).due(0, "count", 5);
        // The highest bit of a number is no sign here.
        run.due(20, "feed", 0x80000000, 0, 0, 0, 0).due(1, "end", 1).due(-1, "dairy").due(1, "fault");
    }

    private static void dairies() {
        Run run = new Run("dairies");
        run.tape("").due(0, "dairy").due(0, "fault");
        run.tape(" \n \n").due(0, "dairy");
        run.tape("farm a;cow b a 40 9 30;news c weather 20 lie;farm d;hedge a d 9;hears 5;").due(6, "dairy");
        run.due(2, "count", 0).due(1, "count", 1).due(1, "count", 2).due(1, "count", 3).due(5, "count", 4);
        run.tape("farm\na;cow   b a 1 1\n1;news c plain 0;farm d;hedge d a 1;hears 1;").due(6, "dairy");
        run.due(1, "count", 4).due(1, "cow", 0, 6).due(0, "news", 0, 1).due(0, "news", 0, 2);
        run.tape("farm abcdefg;farm aa;cow z aa 001 09 030 ;news y war 020 lie ;").due(4, "dairy");
        run.due(3, "count", 4).due(1, "cow", 0, 0).due(20, "news", 0, 1).due(1, "news", 0, 2).due(2, "news", 0, 0);
        run.tape("farm a;farm b;farm c;farm d;hedge a b 1;hedge a c 1;hedge a d 1;hedge b c 1;hedge b d 1;hedge c d 1;");
        run.due(10, "dairy").due(6, "count", 3).due(7, "farm", 0, 3).due(25, "farm", 1, 3).due(42, "farm", 2, 3).due(52, "farm", 3, 3);
        run.tape("news a plain 1;news b scandal 1;news c war 1;news d weather 1;").due(4, "dairy");
        run.due(0, "news", 0, 0).due(1, "news", 1, 0).due(2, "news", 2, 0).due(3, "news", 3, 0);
        // Words of a SENTENCE or a BOOK are close to names, but longer or shorter ones are names.
        run.tape("farm farms;farm co;news newsy plain 1;news dryer war 2;cow numbe co 1 1 1;").due(5, "dairy");
    }

    private static void tokens() {
        Run run = new Run("tokens");
        run.faulty(1, 0, "dairy", "farms a;");
        run.faulty(1, 0, "dairy", ";");
        run.faulty(1, 0, "dairy", "7;");
        run.faulty(1, 0, "dairy", "lie;");
        run.faulty(1, 5, "dairy", "farm abcdefgh;");
        run.faulty(1, 5, "dairy", "farm a1;");
        run.faulty(1, 5, "dairy", "farm 1a;");
        run.faulty(1, 5, "dairy", "farm 1;");
        run.faulty(1, 5, "dairy", "farm A;");
        run.faulty(1, 5, "dairy", "farm ;");
        run.faulty(1, 6, "dairy", "farm aB;");
        run.faulty(1, 4, "dairy", "farm\ta;");
        run.faulty(1, 6, "dairy", "farm a.");
        run.faulty(1, 7, "dairy", "farm a farm b;");
        run.faulty(1, 7, "dairy", "farm a;;");
        run.faulty(1, 7, "dairy", "farm a;\0");
        run.faulty(1, 8, "dairy", "farm a; \u00e4");
        for (String word : ("farm cow news lie plain scandal war weather hedge hears found day or and not dry curdled at knows "
            + "heard milk given doubts number").split(" ")) {
            run = new Run("told word " + word);
            run.faulty(1, 5, "dairy", "farm " + word + ";");
            run.faulty(1, 4, "dairy", "cow " + word + " a 1 1 1;");
            run.faulty(1, 13, "dairy", "farm a;hedge " + word + " a 1;");
        }
        run = new Run("tokens of lines");
        run.faulty(1, 7, "dairy", "news a odd 1;");
        run.faulty(1, 7, "dairy", "news a lie 1;");
        run.faulty(1, 7, "dairy", "news a hedge 1;");
        run.faulty(1, 7, "dairy", "news a 1;");
        run.faulty(1, 13, "dairy", "news a plain lie;");
        run.faulty(1, 15, "dairy", "news a plain 1 true;");
        run.faulty(1, 19, "dairy", "news a plain 1 lie lie;");
        run.faulty(1, 13, "dairy", "news a plain 1000;");
        run.faulty(1, 15, "dairy", "farm a;cow b a 1234 1 1;");
        run.faulty(1, 15, "dairy", "farm a;cow b a ten 1 1;");
        run.faulty(1, 6, "dairy", "hears three;");
        run.faulty(1, 13, "dairy", "farm a;hedge 1 a 1;");
        run.faulty(1, 15, "dairy", "farm a;hedge a 1 1;");
        run.faulty(1, 24, "dairy", "farm a;farm b;hedge a b ;");
    }

    private static void faultsOfNumbers() {
        Run run = new Run("numbers");
        run.faulty(2, 15, "dairy", "farm a;cow b a 0 1 1;");
        run.faulty(2, 15, "dairy", "farm a;cow b a 41 0 0;");
        run.faulty(2, 17, "dairy", "farm a;cow b a 1 0 1;");
        run.faulty(2, 17, "dairy", "farm a;cow b a 1 10 1;");
        run.faulty(2, 19, "dairy", "farm a;cow b a 1 1 0;");
        run.faulty(2, 19, "dairy", "farm a;cow b a 1 1 31;");
        run.faulty(2, 13, "dairy", "news a plain 21;");
        run.faulty(2, 13, "dairy", "news a plain 999;");
        run.faulty(2, 24, "dairy", "farm a;farm b;hedge a b 0;");
        run.faulty(2, 24, "dairy", "farm a;farm b;hedge a b 10;");
        run.faulty(2, 6, "dairy", "hears 0;");
        run.faulty(2, 6, "dairy", "hears 6;");
    }

    private static void faultsOfNames() {
        Run run = new Run("names");
        run.faulty(3, 12, "dairy", "farm a;farm a;");
        run.faulty(3, 11, "dairy", "farm a;cow a a 1 1 1;");
        run.faulty(3, 12, "dairy", "farm a;news a plain 1;");
        run.faulty(3, 20, "dairy", "news a plain 1;farm a;");
        run.faulty(3, 6, "dairy", "cow b a 1 1 1;");
        run.faulty(3, 6, "dairy", "cow b b 1 1 1;");
        run.faulty(3, 21, "dairy", "news a plain 1;cow b a 1 1 1;");
        run.faulty(3, 15, "dairy", "farm a;hedge a b 1;");
        run.faulty(3, 13, "dairy", "farm a;hedge b b 1;");
        run.faulty(3, 15, "dairy", "farm a;hedge a a 1;");
        run.faulty(3, 15, "dairy", "farm a;hedge a a 0;");
        run.faulty(3, 34, "dairy", "farm a;farm b;hedge a b 1;hedge a b 1;");
        run.faulty(3, 34, "dairy", "farm a;farm b;hedge a b 1;hedge b a 2;");
        run.faulty(3, 8, "dairy", "hears 3;hears 3;");
        run.faulty(3, 8, "dairy", "hears 3;hears");
        run.faulty(3, 8, "dairy", "hears 3;hears 9;");
    }

    private static void faultsOfMore() {
        Run run = new Run("one more");
        String farms = "farm a;farm b;farm c;farm d;";
        run.faulty(4, 28, "dairy", farms + "farm e;");
        run.faulty(4, 28, "dairy", farms + "farm");
        run.faulty(4, 28, "dairy", farms + "farm a;");
        run.faulty(1, 28, "dairy", farms + "farms;");
        StringBuilder cows = new StringBuilder("farm x;");
        StringBuilder news = new StringBuilder();
        for (char c = 'a'; c < 'a' + 8; c++) {
            cows.append("cow ").append(c).append(" x 1 1 1;");
        }
        for (char c = 'a'; c < 'a' + 10; c++) {
            news.append("news ").append(c).append(" plain 1;");
        }
        run.faulty(4, cows.length(), "dairy", cows + "cow a x 1 1 1;");
        run.faulty(4, news.length() + 1, "dairy", news + " news k plain 1;");
        run.tape(farms).due(4, "dairy").tape(cows.toString()).due(9, "dairy").tape(news.toString()).due(10, "dairy");
        run.due(0, "count", 0).due(0, "count", 1).due(10, "count", 2);
    }

    private static void ends() {
        Run run = new Run("ends");
        String whole = "farm a;farm b;cow c a 1 1 1;news n plain 1 lie;hedge a b 1;hears 2;";
        for (int length = 1; length < whole.length(); length++) {
            String text = whole.substring(0, length);
            run = new Run("end at " + length);
            if (text.endsWith(";")) {
                run.tape(text).due(text.split(";").length, "dairy").due(0, "fault");
            } else if (text.matches("(.*;)?[a-z]*") && !text.matches("(.*;)?(farm|cow|news|hedge|hears)")) {
                run.faulty(1, text.lastIndexOf(';') + 1, "dairy", text);
            } else if (!text.matches(".* (p|pl|pla|plai|l|li)")) {
                run.faulty(1, length, "dairy", text);
                run.faulty(1, length + 2, "dairy", text + " \n");
            }
        }
        run.faulty(1, 13, "dairy", "news n plain ");
        run.faulty(1, 15, "dairy", "news n plain 1 li");
        run.faulty(1, 18, "dairy", "news n plain 1 lie");
    }

    private static void tooLong() {
        Run run = new Run("too long");
        run.tape("farm a;" + " ".repeat(893)).due(1, "dairy").due(0, "fault");
        run.faulty(1, 900, "dairy", "farm a;" + " ".repeat(894));
        run.faulty(1, 900, "dairy", " ".repeat(940));
        run.faulty(1, 900, "dairy", "farm a" + " ".repeat(930) + ";");
        run.faulty(1, 900, "dairy", " ".repeat(894) + "farm a;farm a;");
        run.faulty(1, 900, "dairy", " ".repeat(893) + "farm a;farm a;");
        run.faulty(1, 893, "dairy", " ".repeat(893) + "farms a;");
        run = new Run("begun ahead of the end");
        // A TOKEN that begins ahead of the 900th byte is read whole.
        run.faulty(1, 900, "dairy", " ".repeat(894) + "farm abcdefg;");
        run.faulty(1, 899, "dairy", " ".repeat(894) + "farm abcdefgh;");
        run.faulty(1, 899, "dairy", " ".repeat(894) + "farm a2;");
        run.faulty(3, 899, "dairy", "farm ab;" + " ".repeat(886) + "farm ab;");
        run.faulty(1, 900, "dairy", "farm ab;" + " ".repeat(887) + "farm ab;");
        run.faulty(1, 899, "dairy", " ".repeat(893) + "hears 1111;");
        run.faulty(2, 899, "dairy", " ".repeat(893) + "hears 111;");
    }

    private static void staysAfterFault() {
        Run run = new Run("stays after a fault");
        run.tape("farm a;cow b a 7 2 3;news n plain 2;").due(3, "dairy").due(0, "tell", 0, 0).due(2, "days", 2);
        run.tape("dry").due(1, "sentence");
        run.faulty(1, 0, "dairy", "x");
        run.due(1, "count", 0).due(1, "count", 1).due(2, "now", 0).due(16, "now", 3).due(0, "said", -1).due(1, "now", 4);
        run.due(1, "undo").due(0, "undo");
        run.due(0, "tell", 0, 0).tape("farm a;").due(1, "dairy").due(0, "fault").due(0, "count", 1).due(0, "now", 4);
        run.due(-1, "undo").due(-1, "said", -1).due(0, "now", 0).due(0, "now", 3);
    }
}
