import java.io.IOException;

/** The sentences of "Terms" on TOKENS, DAIRY, BOOK, SENTENCE and FAULTS that name an edge, each by a run of its own. */
public final class EdgesOfTextsTest {
    private static final String FARMS = "farm a;farm b;farm c;farm d;";
    private static final String HERE = "farm f;farm g;cow a f 10 1 3;cow b g 5 9 3;news p plain 6;news l plain 2 lie;";
    private static final String[] WORDS = ("farm cow news lie plain scandal war weather hedge hears found day or and not dry "
        + "curdled at knows heard milk given doubts number").split(" ");

    public static void main(String[] args) throws IOException {
        Quotes.find(args);
        blanks();
        words();
        numbers();
        signs();
        runsOfLettersAndDigits();
        bytesOfDairy();
        linesOfDairy();
        numbersOfCows();
        kindsAndWorths();
        hedges();
        hears();
        names();
        mostOfASort();
        bytesOfBook();
        linesOfBook();
        daysOfBook();
        bytesOfSentence();
        onesOfSentence();
        within();
        comparing();
        saidOfCows();
        firstAlongTheText();
        leastOfOneToken();
        whatCannotCome();
        theEnd();
        mostBytes();
        readWhole();
        faultTwo();
        faultThree();
        faultThreeAtTheSecond();
        faultFour();
        Quotes.finish();
    }

    private static Run withDairy(Run run) {
        return run.whole(6, "dairy", HERE);
    }

    private static String blanks(int n) {
        return " ".repeat(n);
    }

    private static void blanks() {
        Run run = Quotes.term("with blanks (32, 10) between them or not");
        run.whole(2, "dairy", "\n farm \n\n a\n;\n\ncow b\na 1  1\n1 \n; \n").whole(1, "dairy", "farm a;").whole(1, "dairy", "farm a ;");
        for (int other : new int[] {0, 1, 9, 11, 12, 13, 31, 33, 127, 128, 160, 255}) {
            run.fault(1, "dairy", "farm a;^" + (char) other + "farm b;").fault(1, "dairy", "farm^" + (char) other + "a;");
        }
        withDairy(run).whole(5, "sentence", "not(dry)and(dry)").whole(2, "sentence", "milk<1\nor\nmilk > 2").whole(-1, "book", "day\n1\n;\n", 0);
    }

    private static void words() {
        Run run = Quotes.term("WORDS: small letters, 1 to 7");
        run.whole(4, "dairy", "farm a;farm z;farm abcdefg;farm zzzzzzz;").fault(1, "dairy", "farm ^;").fault(1, "dairy", "farm ^abcdefgh;");
        run.fault(1, "dairy", "farm ^zzzzzzzzzzzzzzzzzzzzzzzzzzzzzzzzzzzzzzzzzzz;");
        for (char other : new char[] {'A', 'Z', '`', '{', '_', (char) 225, (char) 250}) {
            run.fault(1, "dairy", "farm ^" + other + ";").fault(1, "dairy", "farm a^" + other + ";");
        }
        // Two of seven letters that differ in the first or the last one are two.
        run.whole(3, "dairy", "farm abcdefg;farm bbcdefg;farm abcdefh;").fault(3, "dairy", "farm abcdefg;farm ^abcdefg;");
    }

    private static void numbers() {
        Run run = Quotes.term("NUMBERS: 1 to 3 digits");
        run.whole(1, "dairy", "hears 1;").whole(1, "dairy", "hears 01;").whole(1, "dairy", "hears 001;").due(1, "count", 4);
        run.fault(1, "dairy", "hears ^0001;").fault(1, "dairy", "hears ^1000;").fault(1, "dairy", "hears ^4294967297;").fault(1, "dairy", "hears ^;");
        for (char other : new char[] {'/', ':', '-', '+', (char) 178}) {
            run.fault(1, "dairy", "hears ^" + other + "1;").fault(1, "dairy", "hears 1^" + other + ";");
        }
        run.whole(2, "dairy", "news a plain 0;news b plain 9;").due(9, "news", 1, 1);
    }

    private static void signs() {
        Run run = Quotes.term("; < = > ( )");
        for (char sign : "<=>().,:".toCharArray()) {
            run.fault(1, "dairy", "^" + sign).fault(1, "dairy", "farm a^" + sign + ";");
        }
        withDairy(run);
        for (char sign : ";<=>).".toCharArray()) {
            run.fault(1, "sentence", "^" + sign + "dry").fault(1, "sentence", "dry^" + sign).fault(1, "sentence", "milk^" + (sign < '<' || sign > '>' ? sign : '!') + "3");
        }
    }

    private static void runsOfLettersAndDigits() {
        Run run = Quotes.term("A WORD, NUMBER goes on as long as small letters and digits do; what is not as told is no TOKEN");
        run.fault(1, "dairy", "farm ^a1;").fault(1, "dairy", "farm ^1a;").fault(1, "dairy", "farm ^abcdefg1;").fault(1, "dairy", "^farm1 a;");
        run.fault(1, "dairy", "hears ^1a;").fault(1, "dairy", "hears ^12ab;").fault(1, "dairy", "news n plain ^1lie;").fault(1, "dairy", "^hears1;");
        withDairy(run).fault(1, "sentence", "milk>^3or dry").fault(1, "sentence", "^notdry").fault(1, "sentence", "^milk3").fault(1, "book", "^day1;", 0);
        run.fault(1, "book", "day ^1day 1;", 0);
    }

    private static void bytesOfDairy() {
        Run run = Quotes.term("A DAIRY is a text of at most 900 bytes");
        run.whole(1, "dairy", "farm a;" + blanks(893)).whole(1, "dairy", blanks(893) + "farm a;").whole(0, "dairy", blanks(900));
        run.fault(1, "dairy", "farm a;" + blanks(893) + "^ ").fault(1, "dairy", blanks(894) + "farm a^;").fault(1, "dairy", blanks(900) + "^" + blanks(40));
        run.due(0, "count", 0);
    }

    private static void linesOfDairy() {
        Run run = Quotes.term("A DAIRY is a text of at most 900 bytes: { LINE ; }.");
        run.whole(0, "dairy", "").whole(0, "dairy", " ").whole(0, "dairy", "\n").whole(1, "dairy", "farm a;").whole(4, "dairy", FARMS);
        run.fault(1, "dairy", "^;").fault(1, "dairy", "farm a;^;").fault(1, "dairy", "farm a^").fault(1, "dairy", "farm a ^farm b;").due(4, "count", 0);
        // All that may be told at once: 4 and 8 and 10 and 6 LINES and one more.
        StringBuilder text = new StringBuilder(FARMS);
        for (char c = 'e'; c < 'e' + 8; c++) {
            text.append("cow ").append(c).append(" d 40 9 30;");
        }
        for (char n = 'm'; n < 'm' + 10; n++) {
            text.append("news ").append(n).append(" weather 20 lie;");
        }
        text.append("hedge a b 9;hedge a c 9;hedge a d 9;hedge b c 9;hedge b d 9;hedge c d 9;hears 5;");
        run.whole(29, "dairy", text.toString()).due(4, "count", 0).due(8, "count", 1).due(10, "count", 2).due(6, "count", 3).due(5, "count", 4);
    }

    private static void numbersOfCows() {
        Run run = Quotes.term("'cow' NAME FARM GIVES TRUST KEEPS (1 to 40; 1 to 9; 1 to 30 DAYS)");
        run.whole(2, "dairy", "farm f;cow c f 1 1 1;").due(1, "cow", 0, 6).whole(2, "dairy", "farm f;cow c f 40 9 30;").due(40, "cow", 0, 6);
        run.fault(2, "dairy", "farm f;cow c f ^0 1 1;").fault(2, "dairy", "farm f;cow c f ^41 1 1;").fault(2, "dairy", "farm f;cow c f ^999 1 1;");
        run.fault(2, "dairy", "farm f;cow c f 1 ^0 1;").fault(2, "dairy", "farm f;cow c f 1 ^10 1;").fault(2, "dairy", "farm f;cow c f 1 ^999 1;");
        run.fault(2, "dairy", "farm f;cow c f 1 1 ^0;").fault(2, "dairy", "farm f;cow c f 1 1 ^31;").fault(2, "dairy", "farm f;cow c f 1 1 ^999;");
        run.fault(1, "dairy", "farm f;cow c f 1 1^;").fault(1, "dairy", "farm f;cow c f 1 1 1 ^1;").due(40, "cow", 0, 6);
    }

    private static void kindsAndWorths() {
        Run run = Quotes.term("'news' NAME KIND WORTH [ 'lie' ] (KIND: 'plain', 'scandal', 'war', 'weather'; 0 to 20)");
        run.whole(4, "dairy", "news a plain 0;news b scandal 20;news c war 0 lie;news d weather 20 lie;");
        for (int n = 0; n < 4; n++) {
            run.due(n, "news", n, 0).due(n % 2 * 20, "news", n, 1).due(n / 2, "news", n, 2);
        }
        run.fault(2, "dairy", "news a plain ^21;").fault(2, "dairy", "news a war ^21 lie;").fault(2, "dairy", "news a weather ^999;");
        run.fault(1, "dairy", "news a ^plains 1;").fault(1, "dairy", "news a ^lie 1;").fault(1, "dairy", "news a ^hears 1;").fault(1, "dairy", "news a ^1;");
        run.fault(1, "dairy", "news a plain ^lie;").fault(1, "dairy", "news a plain 1 ^true;").fault(1, "dairy", "news a plain 1 lie ^lie;");
    }

    private static void hedges() {
        Run run = Quotes.term("'hedge' FARM FARM EVERY (unlike; 1 to 9; each two once, in whatever order)");
        run.whole(5, "dairy", "farm a;farm b;farm c;hedge a b 1;hedge c b 9;").due(1, "farm", 0, 3).due(3, "farm", 1, 3).due(2, "farm", 2, 3);
        run.fault(3, "dairy", "farm a;hedge a ^a 1;").fault(2, "dairy", "farm a;farm b;hedge a b ^0;").fault(2, "dairy", "farm a;farm b;hedge a b ^10;");
        run.fault(3, "dairy", "farm a;farm b;hedge a b 1;hedge a ^b 2;").fault(3, "dairy", "farm a;farm b;hedge a b 1;hedge b ^a 1;");
        // Those that share one FARM are no such two.
        run.whole(6, "dairy", "farm a;farm b;farm c;hedge a b 1;hedge a c 1;hedge b c 1;").due(3, "count", 3);
        // All six, and each of them once more.
        String all = FARMS + "hedge a b 1;hedge a c 1;hedge a d 1;hedge b c 1;hedge b d 1;hedge c d 1;";
        run.whole(10, "dairy", all).due(6, "count", 3).fault(3, "dairy", all + "hedge a ^b 1;").fault(3, "dairy", all + "hedge d ^c 1;");
    }

    private static void hears() {
        Run run = Quotes.term("'hears' N (1 to 5; once; 3 without)");
        run.due(3, "count", 4).whole(1, "dairy", "hears 1;").due(1, "count", 4).whole(1, "dairy", "hears 5;").due(5, "count", 4);
        run.fault(2, "dairy", "hears ^0;").fault(2, "dairy", "hears ^6;").fault(3, "dairy", "hears 2;^hears 2;").due(5, "count", 4);
        run.whole(1, "dairy", "farm a;").due(3, "count", 4).whole(1, "dairy", "hears 2;").whole(1, "dairy", "hears 4;").due(4, "count", 4);
    }

    private static void names() {
        Run run = Quotes.term("NAME: a WORD, none of those told here, in a BOOK or a SENTENCE");
        for (String word : WORDS) {
            new Run("the word " + word).fault(1, "dairy", "farm ^" + word + ";").fault(1, "dairy", "farm f;cow ^" + word + " f 1 1 1;")
                .fault(1, "dairy", "news ^" + word + " plain 1;").fault(1, "dairy", "farm f;cow c ^" + word + " 1 1 1;")
                .whole(1, "dairy", "farm " + word.substring(1) + (word.equals("cow") || word.equals("or") ? "x;" : ";"));
        }
        // No words of a text are the document's own words for what is told.
        run.whole(4, "dairy", "farm kind;farm name;farm worth;farm true;").whole(3, "dairy", "farm every;farm gives;farm e;");
        run = Quotes.term("told once");
        run.fault(3, "dairy", "farm x;farm ^x;").fault(3, "dairy", "farm x;cow ^x x 1 1 1;").fault(3, "dairy", "farm x;news ^x war 1;");
        run.fault(3, "dairy", "farm f;cow x f 1 1 1;cow ^x f 1 1 1;").fault(3, "dairy", "farm f;cow x f 1 1 1;farm ^x;");
        run.fault(3, "dairy", "news x war 1;news ^x war 1;").fault(3, "dairy", "news x war 1;farm f;cow ^x f 1 1 1;").whole(1, "dairy", "farm x;");
        // In another DAIRY the NAMES are free again.
        run.whole(1, "dairy", "news x war 1;").whole(1, "dairy", "farm x;");
    }

    private static void mostOfASort() {
        Run run = Quotes.term("4 FARMS, 8 COWS, 10 NEWS at most; FARMS, COWS, NEWS, hedges numbered from 0 each");
        StringBuilder cows = new StringBuilder("farm x;");
        for (int c = 1; c <= 8; c++) {
            cows.append("cow ").append((char) ('`' + c)).append(" x ").append(c).append(" 1 1;");
        }
        StringBuilder news = new StringBuilder();
        for (int n = 1; n <= 10; n++) {
            news.append("news ").append((char) ('`' + n)).append(" war ").append(n).append(";");
        }
        run.whole(4, "dairy", FARMS).due(0, "farm", 3, 0).due(Run.THROWS, "farm", 4, 0).fault(4, "dairy", FARMS + "^farm e;");
        run.whole(9, "dairy", cows.toString()).due(1, "cow", 0, 6).due(8, "cow", 7, 6).due(255, "farm", 0, 0).due(Run.THROWS, "cow", 8, 0);
        run.fault(4, "dairy", cows + "^cow i x 1 1 1;").whole(10, "dairy", news.toString()).due(1, "news", 0, 1).due(10, "news", 9, 1);
        run.due(-1, "news", 10, 0).fault(4, "dairy", news + "^news k war 1;").due(10, "count", 2);
    }

    private static void bytesOfBook() {
        Run run = withDairy(Quotes.term("A BOOK is a text of at most 400 bytes"));
        run.whole(-1, "book", "day 1;" + blanks(394), 0).whole(-1, "book", blanks(394) + "day 1;", 0).whole(-1, "book", blanks(400), 0);
        run.fault(1, "book", "day 1;" + blanks(394) + "^ ", 1).fault(1, "book", blanks(395) + "day 1^;", 1).fault(1, "book", blanks(400) + "^" + blanks(540), 1);
        run.due(0, "now", 0).due(-1, "undo");
    }

    private static void linesOfBook() {
        Run run = withDairy(Quotes.term("A BOOK is a text of at most 400 bytes: { LINE ; }, 40 at most"));
        String forty = "day 1;".repeat(40);
        run.whole(-1, "book", "", 0).due(0, "written", 1).whole(-1, "book", "day 1;", 0).due(1, "written", 1).whole(-1, "book", forty, 0).due(40, "written", 1);
        run.fault(4, "book", forty + "^day 1;", 1).fault(1, "book", forty + "^;", 1).fault(1, "book", "day 1;^;", 1).fault(1, "book", "day 1^", 1);
        run.due(0, "now", 0).due(40, "written", 1);
    }

    private static void daysOfBook() {
        Run run = withDairy(Quotes.term("'day' N (1 to 60)"));
        run.whole(-1, "book", "day 1;", 0).due(1, "written", 2).whole(-1, "book", "day 60;", 0).due(60, "written", 2).whole(-1, "book", "day 060;", 0);
        run.fault(2, "book", "day ^0;", 0).fault(2, "book", "day ^61;", 0).fault(2, "book", "day ^000;", 1).fault(2, "book", "day ^999;", 1).due(60, "written", 2);
    }

    private static void bytesOfSentence() {
        Run run = withDairy(Quotes.term("A SENTENCE is a text of at most 200 bytes"));
        run.whole(1, "sentence", "dry" + blanks(197)).whole(1, "sentence", blanks(197) + "dry").fault(1, "sentence", "dry" + blanks(197) + "^ ");
        run.fault(1, "sentence", blanks(198) + "dr^y").fault(1, "sentence", blanks(200) + "^" + blanks(740)).fault(1, "sentence", blanks(200) + "^");
    }

    private static void onesOfSentence() {
        Run run = withDairy(Quotes.term("20 ONES"));
        String ors = "dry or ".repeat(19);
        String ands = "dry and ".repeat(19);
        run.whole(20, "sentence", ors + "at g").due(1, "said", -1).due(1, "said", 0).whole(20, "sentence", ands + "dry").whole(20, "sentence", "not dry and ".repeat(9) + "(dry)");
        run.whole(20, "sentence", "not ( dry ) or ".repeat(6) + "not dry").fault(4, "sentence", "dry or ".repeat(20) + "^dry").fault(4, "sentence", "dry and ".repeat(20) + "^dry");
        run.fault(4, "sentence", ors + "not ^dry").fault(4, "sentence", ors + "(^dry)").fault(4, "sentence", "not dry and ".repeat(10) + "^(dry)").due(2, "said", -1);
        run = withDairy(Quotes.term("A SENTENCE is a text of at most 200 bytes: COND: ALL { 'or' ALL }. ALL: ONE { 'and' ONE }."));
        run.fault(1, "sentence", "^").fault(1, "sentence", "^or dry").fault(1, "sentence", "dry or ^").fault(1, "sentence", "dry and ^").fault(1, "sentence", "dry ^dry");
        run.fault(1, "sentence", "(^)").fault(1, "sentence", "(dry^").fault(1, "sentence", "dry^)").fault(1, "sentence", "not ^").fault(1, "sentence", "dry or ^and dry");
        run.due(-1, "said", -1).whole(3, "sentence", "number=0 or number=1 and number=0").due(1, "said", -1).due(0, "said", 0);
    }

    private static void within() {
        Run run = withDairy(Quotes.term("8 within one another"));
        run.whole(8, "sentence", "(((((((dry)))))))").whole(8, "sentence", "not not not not not not not dry").whole(8, "sentence", "not(not(not(not dry)))");
        run.fault(4, "sentence", "((((((((^dry))))))))").fault(4, "sentence", "not not not not not not not not ^dry").fault(4, "sentence", "(((((((dry or (^dry))))))))");
        // Side by side they are not within one another.
        run.whole(16, "sentence", "(((((((dry)))))))and(((((((dry)))))))").whole(9, "sentence", "(((((((dry or dry)))))))").whole(9, "sentence", "(((((((dry)))))))or dry");
    }

    private static void comparing() {
        Run run = withDairy(Quotes.term("( 'milk' | 'given' | 'doubts' | 'number' ) SIGN NUMBER"));
        run.whole(1, "sentence", "number>0").due(1, "said", -1).due(1, "said", 0).whole(1, "sentence", "number<000").due(0, "said", -1);
        run.whole(1, "sentence", "milk<999").due(2, "said", -1).whole(1, "sentence", "given=999").due(0, "said", -1).whole(1, "sentence", "doubts=0").due(2, "said", -1);
        run.whole(1, "sentence", "milk<10").due(1, "said", -1).whole(1, "sentence", "milk>10").due(0, "said", -1).whole(1, "sentence", "milk=10").due(0, "said", 0);
        run.fault(1, "sentence", "milk<^1000").fault(1, "sentence", "milk ^3").fault(1, "sentence", "milk<^").fault(1, "sentence", "milk<^=3");
        run.due(0, "said", 0);
        // All that she gave may be more than a NUMBER can tell.
        run.till(100).whole(1, "sentence", "given>999").due(1, "said", -1).due(0, "said", 0).whole(1, "sentence", "given=500").due(1, "said", 0);
    }

    private static void saidOfCows() {
        Run run = withDairy(Quotes.term("'dry' | 'curdled' | 'at' FARM | 'knows' NEWS (she REMEMBERS it) | 'heard' NEWS (on this DAY)"));
        run.due(0, "tell", 0, 0).due(0, "tell", 0, 1).whole(1, "sentence", "heard p").due(1, "said", -1).due(0, "said", 0).till(1).due(0, "said", -1);
        run.whole(1, "sentence", "knows p").due(1, "said", -1).till(3).due(1, "said", -1).till(4).due(0, "said", -1).due(0, "tell", 0, 1).due(0, "find", 1);
        run.whole(1, "sentence", "dry").due(1, "said", -1).due(0, "said", 0).whole(1, "sentence", "at g").due(1, "said", -1).due(1, "said", 0).whole(1, "sentence", "curdled").due(0, "said", -1);
        run = withDairy(Quotes.term("(what she gives today; all that she gave so far; lies found; her number)"));
        run.due(0, "tell", 1, 1).whole(1, "sentence", "milk=12").due(1, "said", -1).due(1, "said", 0).whole(1, "sentence", "given>0").due(0, "said", -1).till(1).due(2, "said", -1);
        run.whole(1, "sentence", "given=12").due(1, "said", 0).whole(1, "sentence", "doubts>0").due(0, "said", -1).due(0, "find", 1).due(1, "said", 0).whole(1, "sentence", "number=1").due(1, "said", 0);
        run = Quotes.term("It is said of COWS.");
        run.whole(2, "sentence", "not dry").due(0, "said", -1).due(-1, "said", 0);
        withDairy(run).due(-1, "said", -1).whole(2, "sentence", "not dry").due(2, "said", -1).due(0, "said", 0).due(1, "said", 1).due(-1, "said", 2);
    }

    private static void firstAlongTheText() {
        Run run = withDairy(Quotes.term("FAULTS, the first along the text"));
        run.fault(4, "dairy", FARMS + "^farm !;").fault(3, "dairy", "farm a;farm ^a;hears 9;").fault(2, "dairy", "hears ^9;farm a;farm a;").fault(1, "dairy", "farm ^!;hears 9;");
        run.fault(2, "dairy", "farm f;cow c f ^0 0 0;").fault(3, "dairy", "farm f;cow ^f 0 0 0;").fault(3, "dairy", "cow c ^f 0 0 0;");
        run.fault(3, "book", "^x hears p;day 0;", 0).fault(2, "book", "day ^0;x", 0).fault(3, "sentence", "at ^x !").fault(1, "sentence", "dry ^! at x");
    }

    private static void leastOfOneToken() {
        Run run = withDairy(Quotes.term("of one TOKEN the least"));
        String forty = "day 1;".repeat(40);
        // A 41st LINE of which the first WORD can't come, or is not told, or is as it should be.
        run.fault(1, "book", forty + "^hears p;", 0).fault(1, "book", forty + "^!", 0).fault(3, "book", forty + "^x hears p;", 0).fault(3, "book", forty + "^f hears p;", 0);
        run.fault(4, "book", forty + "^a hears p;", 0).fault(4, "book", forty + "^found p;", 0).fault(4, "book", forty + "^day 0;", 0);
        run.fault(1, "sentence", "dry or ".repeat(20) + "^or").fault(1, "sentence", "dry or ".repeat(20) + "^").fault(1, "sentence", "((((((((^)").fault(1, "sentence", "((((((((^x");
        run.fault(1, "dairy", "hears ^1000;").fault(1, "dairy", "farm x;farm ^x1;");
    }

    private static void whatCannotCome() {
        Run run = withDairy(Quotes.term("1 no TOKEN, or one that can't come (at it"));
        run.fault(1, "dairy", "farm a;  ^?").fault(1, "dairy", "farm a; ^a;").fault(1, "dairy", "^lie;").fault(1, "dairy", "^3;").fault(1, "dairy", "^found p;");
        run.fault(1, "book", "^farm f;", 0).fault(1, "book", "a ^found p;", 0).fault(1, "book", "found ^3;", 0).fault(1, "book", "a hears p ^and;", 0).fault(1, "book", "^not a;", 0);
        run.fault(1, "sentence", "^f").fault(1, "sentence", "^3").fault(1, "sentence", "at ^3").fault(1, "sentence", "at ^(").fault(1, "sentence", "^hears p").fault(1, "sentence", "dry^;");
    }

    private static void theEnd() {
        Run run = withDairy(Quotes.term("the end: how many bytes there are"));
        run.fault(1, "dairy", "farm^").fault(1, "dairy", "farm \n ^").fault(1, "dairy", "farm a^").fault(1, "dairy", "farm a;cow c a 1 1 1^");
        run.fault(1, "book", "day^", 0).fault(1, "book", "day 1^", 0).fault(1, "book", "a^", 0).fault(1, "book", "a hears   ^", 0).fault(1, "sentence", "^").fault(1, "sentence", "  ^");
        run.fault(1, "sentence", "at^").fault(1, "sentence", "milk <\n^").fault(1, "dairy", "farm" + blanks(896) + "^").fault(1, "sentence", "not" + blanks(197) + "^");
    }

    private static void mostBytes() {
        Run run = withDairy(Quotes.term("the most bytes told, if there are more and no FAULT is ahead"));
        run.fault(1, "dairy", blanks(900) + "^!").fault(1, "dairy", blanks(899) + "^!" + blanks(40)).fault(2, "dairy", "hears ^9;" + blanks(930)).fault(1, "dairy", "farm" + blanks(896) + "^ a;");
        run.fault(1, "book", blanks(400) + "^!", 0).fault(1, "book", blanks(399) + "^!" + blanks(9), 0).fault(2, "book", "day ^0;" + blanks(930), 0).fault(1, "book", "day" + blanks(397) + "^ 1;", 0);
        run.fault(1, "sentence", blanks(200) + "^!").fault(1, "sentence", blanks(199) + "^!" + blanks(9)).fault(3, "sentence", "at ^x" + blanks(930)).fault(1, "sentence", "dry or" + blanks(194) + "^ dry");
    }

    private static void readWhole() {
        Run run = Quotes.term("TOKENS that begin ahead of it are read whole");
        run.fault(1, "dairy", blanks(894) + "farm a^bcdefg;").fault(1, "dairy", blanks(894) + "farm ^abcdefgh;").fault(1, "dairy", blanks(894) + "farm ^a2;");
        run.fault(3, "dairy", "farm abc;" + blanks(885) + "farm ^abc;").fault(1, "dairy", "farm a;" + blanks(887) + "farm a^b;").fault(2, "dairy", blanks(893) + "hears ^111;");
        run = withDairy(new Run("read whole, of a BOOK and a SENTENCE"));
        run.fault(2, "book", blanks(395) + "day ^111;", 0).fault(1, "book", blanks(395) + "day ^1111;", 0).fault(3, "book", blanks(399) + "^ab hears p;", 0).fault(1, "book", blanks(395) + "day 1^1;", 0);
        run.fault(1, "sentence", blanks(199) + "d^ry").fault(1, "sentence", blanks(199) + "^dryer").fault(3, "sentence", blanks(196) + "at ^ff").fault(1, "sentence", blanks(194) + "milk<9^99");
        run.fault(1, "sentence", blanks(194) + "milk<^9999");
    }

    private static void faultTwo() {
        Run run = withDairy(Quotes.term("2 a NUMBER that is not as told (at it)"));
        run.fault(2, "dairy", "farm f;cow c f  ^41 1 1;").fault(2, "dairy", "news n plain\n^21 lie;").fault(2, "dairy", "farm f;farm g;hedge f g ^0").fault(2, "dairy", "hears ^6");
        run.fault(2, "book", "day  ^61", 0);
    }

    private static void faultThree() {
        Run run = withDairy(Quotes.term("3 a NAME told twice, not told, or of another sort"));
        run.fault(3, "dairy", "farm x;farm  ^x;").fault(3, "dairy", "cow c ^x 1 1 1;").fault(3, "dairy", "farm f;cow c f 1 1 1;cow d ^c 1 1 1;").fault(3, "dairy", "news n war 1;cow d ^n 1 1 1;");
        run.fault(3, "dairy", "cow c ^c 1 1 1;").fault(3, "dairy", "hedge ^x y 1;").fault(3, "dairy", "farm x;hedge x ^y 1;").fault(3, "dairy", "news n war 1;hedge ^n n 1;");
        run.fault(3, "book", "^x hears p;", 0).fault(3, "book", "^f hears p;", 0).fault(3, "book", "^p hears p;", 0).fault(3, "book", "a hears ^x;", 0).fault(3, "book", "a hears ^b;", 0);
        run.fault(3, "book", "found ^x;", 0).fault(3, "book", "found ^f;", 0).fault(3, "sentence", "at ^x").fault(3, "sentence", "at ^p").fault(3, "sentence", "knows ^a").fault(3, "sentence", "heard ^x");
    }

    private static void faultThreeAtTheSecond() {
        Run run = Quotes.term("two alike that must be unlike, or told again (at the second), 'hears' told again in a DAIRY (at the WORD)");
        run.fault(3, "dairy", "farm a;hedge a  ^a 0;").fault(3, "dairy", "farm a;farm b;hedge b a 1;hedge a ^b 0;").fault(3, "dairy", "farm a;farm b;hedge b a 1;hedge b ^a");
        run.fault(3, "dairy", "hears 1; ^hears 1;").fault(3, "dairy", "hears 1;farm a;^hears").fault(3, "dairy", "hears 1;^hears 9;").fault(2, "dairy", "hears ^0;hears 1;");
    }

    private static void faultFour() {
        Run run = Quotes.term("4 one more than there may be of a sort, a 41st LINE of a BOOK (at the LINE's first WORD)");
        run.fault(4, "dairy", FARMS + " \n^farm a;").fault(4, "dairy", FARMS + "^farm");
        withDairy(run).fault(4, "book", "day 1;".repeat(40) + "\n ^b", 0);
        run = withDairy(Quotes.term("a 21st ONE, a ninth within (at its first TOKEN)"));
        run.fault(4, "sentence", "dry or ".repeat(20) + " ^at x").fault(4, "sentence", "dry or ".repeat(20) + "^not").fault(4, "sentence", "((((((((  ^milk").fault(4, "sentence", "((((((((^(");
        // The 21st may be a ninth within, too.
        run.fault(4, "sentence", "dry or ".repeat(12) + "((((((((^dry");
    }
}
