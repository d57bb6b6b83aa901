import java.io.IOException;

/** The sentences of "Terms" on COWS, NEWS, DAYS and what is asked of them that name an edge, each by a run of its own. */
public final class EdgesOfLifeTest {
    public static void main(String[] args) throws IOException {
        Quotes.find(args);
        remembers();
        whyNotTold();
        stale();
        foundOut();
        doubts();
        nineDoubts();
        curdled();
        plain();
        lies();
        scandals();
        half();
        weather();
        nothingLess();
        allDays();
        everyDivides();
        aheadOfAllTalk();
        comesToAll();
        doesNotHear();
        asSheWas();
        best();
        least();
        plan();
        planTies();
        planTalk();
        allKnow();
        parted();
        tasted();
        ask();
        week();
        drawn();
        newDairy();
        callThatThrows();
        Quotes.finish();
    }

    private static Run with(Run run, String text) {
        return run.whole(text.split(";").length, "dairy", text);
    }

    private static void remembers() {
        Run run = Quotes.term("A COW REMEMBERS NEWS that came to her (by telling or by talk) on this DAY or as many DAYS ago as she KEEPS, at most.");
        with(run, "farm f;farm g;cow a f 1 9 1;cow b f 1 9 2;cow c f 1 9 30;cow d g 1 9 2;news x plain 1;hedge f g 9;");
        run.due(0, "news", 0, 5).due(0, "tell", 0, 0).due(0, "tell", 1, 0).due(0, "tell", 2, 0).due(0b111, "news", 0, 5);
        run.till(1).due(0b111, "news", 0, 5).till(2).due(0b110, "news", 0, 5).till(3).due(0b100, "news", 0, 5).till(8).due(0b100, "news", 0, 5);
        // Talk on DAY 8 brings it to d, who keeps it for 2 DAYS; so it goes on DAYS 17 and 26.
        run.till(9).due(0b1100, "news", 0, 5).till(10).due(0b1100, "news", 0, 5).till(11).due(0b100, "news", 0, 5).till(30).due(0b100, "news", 0, 5);
        run.till(31).due(0, "news", 0, 5).due(0, "cow", 2, 5);
        run = with(new Run("told again"), "farm f;cow a f 1 9 1;news x plain 1;").due(0, "tell", 0, 0).till(1).due(0, "tell", 0, 0);
        run.till(2).due(1, "cow", 0, 5).till(3).due(0, "cow", 0, 5);
    }

    private static void whyNotTold() {
        Run run = Quotes.term("1 she is dry; 2 she has heard it on this DAY; 3 she has heard as many as 'hears' tells on it.");
        with(run, "farm f;cow a f 1 1 9;cow b f 1 9 9;news x plain 1 lie;news y plain 1;hears 1;");
        run.due(0, "why", 0, 0).due(0, "tell", 0, 0).due(2, "why", 0, 0).due(2, "tell", 0, 0).due(3, "why", 0, 1).due(3, "tell", 0, 1).due(0, "why", 1, 1);
        run.due(0, "find", 0).due(1, "why", 0, 0).due(1, "tell", 0, 0).due(1, "why", 0, 1).due(1, "tell", 0, 1).due(1, "now", 4);
        run.due(0, "tell", 1, 0).due(3, "tell", 1, 1).till(1).due(0, "why", 1, 0).due(0, "tell", 1, 1).due(3, "tell", 1, 0).due(1, "tell", 0, 1);
        run = with(new Run("five and one more"), "farm f;cow a f 1 1 9;news p plain 1;news q plain 1;news r plain 1;news s plain 1;news t plain 1;news u plain 1;hears 5;");
        for (int n = 5; n > 0; n--) {
            run.due(0, "tell", 0, n);
        }
        run.due(3, "tell", 0, 0).due(2, "tell", 0, 1).due(0b111110, "cow", 0, 4).due(5, "now", 4);
        run = with(new Run("three without 'hears'"), "farm f;cow a f 1 1 9;news p plain 1;news q plain 1;news r plain 1;news s plain 1;");
        run.due(0, "tell", 0, 0).due(0, "tell", 0, 1).due(0, "tell", 0, 2).due(3, "tell", 0, 3);
    }

    private static void stale() {
        Run run = Quotes.term("it is STALE, if she REMEMBERED it already");
        with(run, "farm f;farm g;cow a f 10 9 2;cow b f 10 9 2;cow c g 10 9 2;news x plain 7;hedge f g 9;");
        run.due(0, "tell", 0, 0).due(17, "cow", 0, 6).till(1).due(0, "tell", 0, 0).due(13, "cow", 0, 6).due(0, "tell", 1, 0).due(17, "cow", 1, 6);
        // On DAY 3 she has it from DAY 1, on DAY 6 she has forgotten it.
        run.till(3).due(0, "tell", 0, 0).due(13, "cow", 0, 6).till(6).due(0, "tell", 0, 0).due(17, "cow", 0, 6);
        // By the talk of DAY 8 it is STALE on DAY 10 and new on DAY 11.
        run.till(10).due(0, "tell", 2, 0).due(13, "cow", 2, 6).due(7, "undo").till(11).due(0, "tell", 2, 0).due(17, "cow", 2, 6);
    }

    private static void foundOut() {
        Run run = Quotes.term("A lie is FOUND out: 1 it is no lie; 2 it was found");
        with(run, "farm f;cow a f 10 9 2;news x plain 7;news y war 1 lie;news z weather 1 lie;");
        run.due(1, "find", 0).due(1, "find", 0).due(0, "find", 1).due(2, "find", 1).due(2, "now", 2).till(9).due(2, "find", 1).due(0, "find", 2).due(6, "now", 2);
    }

    private static void doubts() {
        Run run = Quotes.term("each COW that REMEMBERS it and is not dry has a DOUBT more");
        with(run, "farm f;farm g;cow a f 5 9 1;cow b f 5 1 2;cow c g 5 2 9;news x plain 7 lie;news y plain 1 lie;hedge f g 1;");
        run.due(0, "tell", 0, 0).due(0, "tell", 1, 0).due(0, "tell", 0, 1).due(0, "tell", 1, 1);
        // By talk c has both; on DAY 1 a has them yet; b, dry then, doubts no more.
        run.till(1).due(0, "find", 0).due(1, "cow", 0, 3).due(1, "cow", 1, 3).due(1, "cow", 2, 3).due(2, "now", 1).due(0, "find", 1);
        run.due(2, "cow", 0, 3).due(1, "cow", 1, 3).due(2, "cow", 2, 3).due(6, "now", 1);
        run = with(new Run("forgotten by then"), "farm f;cow a f 5 1 1;cow b f 5 1 2;news x plain 7 lie;").due(0, "tell", 0, 0).due(0, "tell", 1, 0);
        run.till(2).due(0, "find", 0).due(0, "cow", 0, 3).due(1, "cow", 1, 3).due(2, "now", 1);
        // Told of it when it is found already, she has no doubt by it.
        run.due(0, "tell", 0, 0).due(2, "find", 0).due(0, "cow", 0, 3);
    }

    private static void nineDoubts() {
        Run run = Quotes.term("with as many as her TRUST she is dry for good");
        StringBuilder text = new StringBuilder("farm f;cow a f 7 9 30;cow b f 7 1 30;hears 5;");
        for (int n = 0; n < 10; n++) {
            text.append("news n").append((char) ('a' + n)).append(" plain 1 lie;");
        }
        with(run, text.toString());
        for (int n = 0; n < 10; n++) {
            run.till(n / 5).due(0, "tell", 0, n);
        }
        run.due(0, "tell", 1, 9);
        for (int n = 0; n < 8; n++) {
            run.due(0, "find", n).due(n + 1, "cow", 0, 3).due(0, "cow", 0, 1);
        }
        run.due(0, "find", 8).due(9, "cow", 0, 3).due(1, "cow", 0, 1).due(1, "now", 1).due(0, "find", 9).due(9, "cow", 0, 3).due(1, "cow", 1, 3).due(3, "now", 1);
        run.till(61).due(0, "cow", 0, 5).due(3, "now", 1).due(0, "cow", 0, 6).due(1, "tell", 0, 0).due(9, "cow", 0, 3);
    }

    private static void curdled() {
        Run run = Quotes.term("CURDLED (she has heard of a war on this DAY or one of the 6 ahead of it)");
        with(run, "farm f;farm g;cow a f 5 9 9;cow b g 5 9 9;news x war 7;news y plain 3;hedge f g 1;");
        run.due(0, "cow", 0, 2).due(0, "tell", 0, 0).due(0, "tell", 0, 1).due(1, "cow", 0, 2).due(0, "cow", 0, 6).till(6).due(1, "cow", 0, 2).due(0, "cow", 0, 6);
        run.due(0, "cow", 0, 7).till(7).due(0, "cow", 0, 2).due(5, "cow", 0, 6).due(0, "cow", 1, 2).due(35, "cow", 1, 7).due(0, "tell", 0, 0).due(0, "cow", 0, 6);
        // Told again on the last of them it goes on for 6 DAYS more.
        run.till(13).due(1, "cow", 0, 2).due(0, "tell", 0, 0).till(19).due(1, "cow", 0, 2).till(20).due(0, "cow", 0, 2).due(0, "cow", 0, 7);
    }

    private static void plain() {
        Run run = Quotes.term("of all that she has heard on this DAY: plain: its WORTH");
        with(run, "farm f;cow a f 1 9 9;cow b f 40 9 9;news x plain 0;news y plain 20;").due(0, "tell", 0, 0).due(1, "cow", 0, 6).due(0, "tell", 0, 1);
        run.due(21, "cow", 0, 6).due(40, "cow", 1, 6).due(0, "tell", 1, 1).due(60, "cow", 1, 6).due(81, "farm", 0, 2).till(1).due(1, "cow", 0, 6).due(81, "now", 3);
        run.till(2).due(122, "now", 3);
    }

    private static void lies() {
        Run run = Quotes.term("(a lie, plain or scandal, that was not found: 5 more)");
        with(run, "farm f;cow a f 9 9 9;news x plain 0 lie;news y scandal 20 lie;news z weather 4 lie;news w war 3 lie;hears 5;");
        run.due(0, "tell", 0, 0).due(14, "cow", 0, 6).due(0, "find", 0).due(9, "cow", 0, 6).due(0, "tell", 0, 1).due(34, "cow", 0, 6).due(0, "find", 1);
        run.due(29, "cow", 0, 6).due(0, "tell", 0, 2).due(29, "cow", 0, 6).till(1).due(5, "cow", 0, 6).due(0, "find", 2).due(5, "cow", 0, 6).due(0, "tell", 0, 3).due(0, "cow", 0, 6);
    }

    private static void scandals() {
        Run run = Quotes.term("scandal: likewise, twice, if another COW of her FARM has heard it on this DAY");
        with(run, "farm f;farm g;cow a f 9 9 9;cow b f 9 9 9;cow c f 9 1 9;cow d g 9 9 9;news x scandal 3;news y scandal 4 lie;news z plain 1;");
        run.due(0, "tell", 0, 0).due(12, "cow", 0, 6).due(0, "tell", 3, 0).due(12, "cow", 0, 6).due(12, "cow", 3, 6).due(0, "tell", 1, 0).due(15, "cow", 0, 6);
        run.due(15, "cow", 1, 6).due(12, "cow", 3, 6).due(0, "tell", 2, 0).due(15, "cow", 0, 6).due(0, "tell", 0, 1).due(24, "cow", 0, 6).due(0, "tell", 2, 1).due(33, "cow", 0, 6);
        // c is dry by now, but she has heard it on this DAY.
        run.due(0, "find", 1).due(4, "now", 1).due(23, "cow", 0, 6).due(0, "tell", 1, 2).due(16, "cow", 1, 6);
        // What was heard on the DAY ahead does not count.
        run.till(1).due(0, "tell", 0, 0).due(10, "cow", 0, 6).till(20).due(0, "tell", 0, 0).due(12, "cow", 0, 6);
        run = with(new Run("scandals by several others"), "farm f;cow a f 9 9 9;cow b f 9 9 9;cow c f 9 9 9;news x scandal 3;news y scandal 4;");
        run.due(0, "tell", 1, 0).due(0, "tell", 2, 1).due(0, "tell", 0, 0).due(0, "tell", 0, 1).due(9 + 6 + 8, "cow", 0, 6);
        // Nor does what talk brought.
        run = with(new Run("scandal and talk"), "farm f;farm g;cow a f 9 9 9;cow b f 9 9 9;cow c g 9 9 9;news x scandal 3;hedge f g 1;");
        run.due(0, "tell", 2, 0).till(1).due(0, "tell", 0, 0).due(10, "cow", 0, 6).due(0, "tell", 1, 0).due(12, "cow", 0, 6).due(12, "cow", 1, 6);
    }

    private static void half() {
        Run run = Quotes.term("of each of these half (cut), if it is STALE");
        with(run, "farm f;cow a f 10 9 9;cow b f 10 9 9;news x plain 7;news y plain 2 lie;news z scandal 3;news u plain 1;news v plain 0;hears 5;");
        for (int n = 0; n < 5; n++) {
            run.due(0, "tell", 0, n);
        }
        run.due(28, "cow", 0, 6).till(1).due(0, "tell", 0, 0).due(13, "cow", 0, 6).due(0, "tell", 0, 1).due(16, "cow", 0, 6).due(0, "tell", 0, 2).due(17, "cow", 0, 6);
        run.due(0, "tell", 0, 3).due(17, "cow", 0, 6).due(0, "tell", 0, 4).due(17, "cow", 0, 6);
        // Twice comes ahead of half; a found lie is half of its WORTH alone.
        run.due(0, "tell", 1, 2).due(19, "cow", 0, 6).due(16, "cow", 1, 6).due(0, "find", 1).due(17, "cow", 0, 6);
    }

    private static void weather() {
        Run run = Quotes.term("of weather that she heard on the DAY ahead of it: WORTH, if it is true, WORTH less, if it is a lie");
        with(run, "farm f;farm g;cow a f 30 9 9;cow b g 30 9 9;news s weather 7;news r weather 5 lie;hedge f g 1;");
        run.due(0, "tell", 0, 0).due(0, "tell", 0, 1).due(30, "cow", 0, 6).till(1).due(32, "cow", 0, 6).due(30, "cow", 1, 6).due(0, "tell", 0, 0).due(32, "cow", 0, 6);
        // STALE weather is not cut; a found lie is a lie.
        run.till(2).due(37, "cow", 0, 6).due(0, "tell", 0, 1).due(0, "find", 1).due(37, "cow", 0, 6).till(3).due(25, "cow", 0, 6).till(4).due(30, "cow", 0, 6);
        run.due(30, "cow", 1, 6).due(120, "cow", 1, 7).due(30 + 32 + 37 + 25, "cow", 0, 7);
    }

    private static void nothingLess() {
        Run run = Quotes.term("(nothing less than 0 in all)");
        with(run, "farm f;cow a f 5 9 9;news y weather 20 lie;news z plain 15;news w plain 16;news v weather 5 lie;news u weather 4 lie;");
        run.due(0, "tell", 0, 4).till(1).due(1, "cow", 0, 6).due(0, "tell", 0, 3).till(2).due(0, "cow", 0, 6).due(0, "tell", 0, 0).till(3).due(0, "cow", 0, 6);
        run.due(0, "tell", 0, 1).due(0, "cow", 0, 6).due(6, "undo").due(0, "tell", 0, 2).due(1, "cow", 0, 6).due(6, "undo").till(4).due(6, "cow", 0, 7).due(0, "pails", 0, 3);
    }

    private static void allDays() {
        Run run = Quotes.term("A DAY (0 to 399; 400: all are over) goes");
        with(run, "farm f;cow a f 5 9 9;news x plain 1;").due(0, "now", 0).till(399).due(0, "tell", 0, 0).due(6, "ahead", 2).due(1, "days", 2).due(400, "now", 0);
        run.due(2001, "now", 3).due(6, "pails", 0, 399).due(-1, "pails", 0, 400).due(0, "days", 1).due(0, "days", 60).due(400, "now", 0).due(2001, "cow", 0, 7);
    }

    private static void everyDivides() {
        Run run = Quotes.term("over each hedge whose EVERY divides the number of the DAY and 1 in all");
        int[] every = {1, 2, 3, 5, 7, 9};
        with(run, "farm a;farm b;farm c;farm d;hedge a b 1;hedge a c 2;hedge a d 3;hedge b c 5;hedge b d 7;hedge c d 9;");
        for (int day = 0; day < 400; day += day < 20 ? 1 : day < 380 ? 60 : 19) {
            int bits = 0;
            for (int h = 0; h < 6; h++) {
                bits |= (day + 1) % every[h] == 0 ? 1 << h : 0;
            }
            run.till(day).due(bits, "now", 5);
        }
        run = with(new Run("talk on the third DAY"), "farm f;farm g;cow a f 1 9 9;cow b g 1 9 9;news x plain 1;hedge f g 3;").due(0, "tell", 0, 0);
        run.till(2).due(1, "news", 0, 5).due(1, "now", 5).till(3).due(3, "news", 0, 5);
    }

    private static void aheadOfAllTalk() {
        Run run = Quotes.term("(as it was ahead of all TALK of this DAY)");
        String three = "farm f;farm g;farm h;cow a f 1 9 9;cow b g 1 9 9;cow c h 1 9 9;news x plain 1;news y plain 1;";
        for (String hedges : new String[] {"hedge f g 1;hedge g h 1;", "hedge g h 1;hedge f g 1;", "hedge h g 1;hedge g f 1;"}) {
            with(run, three + hedges).due(0, "tell", 0, 0).due(0, "tell", 2, 1).till(1).due(0b011, "news", 0, 5).due(0b110, "news", 1, 5);
            run.till(2).due(0b111, "news", 0, 5).due(0b111, "news", 1, 5);
        }
    }

    private static void comesToAll() {
        Run run = Quotes.term("comes to all COWS of the other one on this DAY");
        String five = "farm f;farm g;farm h;cow a f 1 9 30;cow e f 1 9 30;cow b g 1 9 30;cow c g 1 1 30;cow d h 1 9 30;news x plain 1;news y plain 1;news l plain 1 lie;";
        for (String hedges : new String[] {"hedge g f 1;hedge g h 1;", "hedge f g 1;hedge h g 1;"}) {
            // Over two hedges at once to g, from a dry one, to a dry one; but e has nothing from a of her own FARM.
            with(run, five + hedges).due(0, "tell", 3, 2).due(0, "find", 2).due(8, "now", 1).due(0, "tell", 0, 0).due(0, "tell", 4, 1).till(1);
            run.due(0b01101, "news", 0, 5).due(0b11100, "news", 1, 5).due(0b11011, "news", 2, 5).till(2).due(31, "news", 0, 5).due(31, "news", 1, 5).due(31, "news", 2, 5);
        }
        // From that DAY on she keeps it.
        run = with(new Run("kept from talk on"), "farm f;farm g;cow a f 1 9 30;cow b g 1 9 1;news x plain 1;hedge f g 8;").due(0, "tell", 0, 0);
        run.till(7).due(1, "news", 0, 5).till(8).due(3, "news", 0, 5).till(9).due(1, "news", 0, 5);
        // A FARM without COWS has nothing to tell.
        run = with(new Run("none between"), "farm f;farm g;farm h;cow a f 1 9 30;cow b h 1 9 1;news x plain 1;hedge f g 1;hedge g h 1;").due(0, "tell", 0, 0);
        run.till(20).due(1, "news", 0, 5).due(-1, "allKnow", 0).due(1, "part", 0, 2);
    }

    private static void doesNotHear() {
        Run run = Quotes.term("(she does not hear it; who has it from this DAY already is as she was)");
        with(run, "farm f;farm g;cow a f 9 9 9;cow b g 9 9 9;cow c g 9 9 9;news w war 3;news s scandal 4;news r weather 9;news p plain 5;hedge f g 1;hears 4;");
        for (int n = 0; n < 4; n++) {
            run.due(0, "tell", 0, n);
        }
        run.till(1).due(0, "cow", 1, 4).due(15, "cow", 1, 5).due(0, "cow", 1, 2).due(9, "cow", 1, 6).due(4, "now", 4).due(0, "news", 1, 4).due(7, "news", 1, 5);
        run.due(0, "tell", 1, 1).due(11, "cow", 1, 6).due(0, "tell", 1, 2).due(0, "tell", 1, 3).due(13, "cow", 1, 6).due(0, "tell", 1, 0).due(8, "now", 4);
    }

    private static void asSheWas() {
        Run run = with(new Run("who has it from this DAY already"), "farm f;farm g;cow a f 9 9 9;cow b g 9 9 1;news x plain 4;hedge f g 2;");
        run.till(1).due(0, "tell", 0, 0).due(0, "tell", 1, 0).due(1, "now", 5).due(13, "cow", 1, 6).till(2).due(3, "news", 0, 5).due(22, "cow", 1, 7).due(0, "cow", 1, 4);
        run.till(3).due(1, "news", 0, 5).till(4).due(3, "news", 0, 5);
    }

    private static void best() {
        String text = "farm f;cow a f 10 9 3;cow b f 10 9 3;news w war 20;news p plain 6;news q plain 6;news z plain 0;news s scandal 4;news t plain 6;";
        Run run = Quotes.term("besides what she has heard (as many as she may yet, none of a war, nobody else is told anything)");
        with(run, text + "hears 2;").due(22, "best", 0).due(0b110, "told").due(0, "tell", 0, 1).due(22, "best", 0).due(0b100, "told").due(0, "tell", 0, 2);
        run.due(22, "best", 0).due(0, "told").due(22, "best", 1).due(0b110, "told").due(22, "honest", 0);
        with(run, "farm f;cow a f 10 9 3;news w war 20;").due(10, "best", 0).due(0, "told").due(0, "tell", 0, 0).due(0, "best", 0).due(0, "told");
        // NEWS that were of a war in another DAIRY are free in this one.
        with(run, "farm f;cow a f 10 9 3;news w plain 20;").due(30, "best", 0).due(1, "told");
        with(run, text + "hears 1;").due(16, "best", 0).due(0b10, "told").due(0, "tell", 1, 4).due(18, "best", 0).due(0b10000, "told").due(14, "cow", 1, 6);
        run = Quotes.term("so that she GIVES most; of like ones the fewest, then the least as bits");
        with(run, text + "hears 5;").due(32, "best", 0).due(0b110110, "told");
        with(run, text + "hears 1;").due(16, "best", 0).due(0b10, "told");
        with(run, "farm f;cow a f 10 9 3;news x plain 0;news y weather 9;news z scandal 0;").due(10, "best", 0).due(0, "told");
        // Below nothing all are alike: none is told.
        with(run, "farm f;cow a f 1 9 3;news x weather 20 lie;news y plain 19;").due(0, "tell", 0, 0).till(1).due(0, "best", 0).due(0, "told").due(0, "honest", 0);
    }

    private static void least() {
        Run run = Quotes.term("the fewest lies (found ones, too) told so that she GIVES p at least; of like ones the fewest NEWS, then the least as bits");
        with(run, "farm f;cow a f 10 9 3;news w war 20;news k plain 0 lie;news l plain 4 lie;news p plain 2;news q plain 2;news r plain 3;hears 3;");
        int[][] due = {{0, 0, 0}, {10, 0, 0}, {11, 0, 8}, {12, 0, 8}, {13, 0, 32}, {14, 0, 24}, {15, 0, 40}, {17, 0, 56}, {18, 1, 4}, {19, 1, 4}, {20, 1, 12},
            {22, 1, 36}, {24, 1, 44}, {25, 2, 14}, {26, 2, 14}, {27, 2, 38}, {28, -1, 38}, {999, -1, 38}};
        for (int[] row : due) {
            run.due(row[1], "least", 0, row[0]).due(row[2], "told");
        }
        run.due(0, "find", 2);
        for (int[] row : new int[][] {{17, 0, 56}, {18, 1, 34}, {20, 1, 42}, {21, 2, 14}, {22, 2, 38}, {23, -1, 38}}) {
            run.due(row[1], "least", 0, row[0]).due(row[2], "told");
        }
        run.due(0, "tell", 0, 0).due(0, "least", 0, 0).due(0, "told").due(-1, "least", 0, 1);
    }

    private static void plan() {
        Run run = Quotes.term("on each from today on one NEWS is told to her, if she can be told, or none");
        with(run, "farm f;cow a f 10 1 1;news x plain 6;news y plain 4 lie;hears 1;").due(19, "plan", 0, 1).due(1, "planAt", 0);
        run.due(0, "tell", 0, 0).due(16, "plan", 0, 1).due(-1, "planAt", 0).due(35, "plan", 0, 2).due(-1, "planAt", 0).due(1, "planAt", 1);
        run.due(51, "plan", 0, 3).due(-1, "planAt", 0).due(1, "planAt", 1).due(0, "planAt", 2).due(1, "now", 4);
        // A dry one can be told nothing.
        run.due(1, "days", 1).due(0, "tell", 0, 1).due(0, "find", 1).due(0, "plan", 0, 3).due(-1, "planAt", 0).due(-1, "planAt", 1).due(-1, "planAt", 2);
    }

    private static void planTies() {
        Run run = Quotes.term("so that she GIVES most in all; of like ones the first: DAY by DAY the least NEWS, none behind all");
        with(run, "farm f;cow a f 9 1 3;news w war 9;news x plain 0;news y weather 0;").due(27, "plan", 0, 3).due(1, "planAt", 0).due(1, "planAt", 1).due(1, "planAt", 2);
        run.due(0, "tell", 0, 1).due(27, "plan", 0, 3).due(2, "planAt", 0).due(1, "planAt", 1).due(1, "planAt", 2);
        with(run, "farm f;cow a f 9 1 3;news w war 9;").due(27, "plan", 0, 3).due(-1, "planAt", 0).due(-1, "planAt", 1).due(-1, "planAt", 2);
        with(run, "farm f;cow a f 9 1 3;").due(9, "plan", 0, 1).due(-1, "planAt", 0);
        // Where all give nothing the least NEWS come first, be they of a war.
        with(run, "farm f;cow a f 9 1 3;news w war 9;news x plain 9;").due(0, "tell", 0, 0).due(0, "plan", 0, 2).due(1, "planAt", 0).due(0, "planAt", 1);
        with(run, "farm f;cow a f 1 9 3;news x weather 20 lie;news y plain 19;news z plain 20;").due(0, "tell", 0, 0).till(1).due(1, "plan", 0, 1).due(2, "planAt", 0);
        with(run, "farm f;cow a f 1 9 3;news x weather 20 lie;news y plain 19;").due(0, "tell", 0, 0).till(1).due(0, "plan", 0, 1).due(0, "planAt", 0);
    }

    private static void planTalk() {
        Run run = Quotes.term("nobody else is told anything (TALK goes on)");
        with(run, "farm f;farm g;cow a f 10 9 9;cow b g 10 9 9;news x plain 9;news y plain 6;hedge f g 1;").due(0, "tell", 1, 0).due(0, "tell", 1, 1);
        // Both are STALE to her behind the first DAY.
        run.due(19, "plan", 0, 1).due(33, "plan", 0, 2).due(0, "planAt", 0).due(0, "planAt", 1).due(47, "plan", 0, 3).due(0, "planAt", 2).due(0b10, "news", 0, 5);
        with(run, "farm f;cow a f 10 9 9;cow b f 10 9 9;news x scandal 9;").due(19, "plan", 0, 1).due(0, "tell", 1, 0).due(28, "plan", 0, 1).due(28 + 14, "plan", 0, 2);
    }

    private static void allKnow() {
        Run run = Quotes.term("ALL know: the first DAY (from now on, 200 at most) behind which all COWS REMEMBER something, if nobody is told anything.");
        // Three that keep it for a DAY have it at once behind DAY 209 alone, when 5, 6 and 7 divide 210.
        with(run, "farm f;farm g;farm h;farm i;cow a f 1 9 30;cow b f 1 9 1;cow c g 1 9 30;cow d h 1 9 1;cow e i 1 9 1;news x plain 1;hedge f g 5;hedge g h 6;hedge g i 7;");
        run.due(0, "tell", 0, 0).due(-1, "allKnow", 0).till(9).due(-1, "allKnow", 0).till(10).due(209, "allKnow", 0).till(209).due(209, "allKnow", 0);
        run.till(210).due(31, "news", 0, 5).due(-1, "allKnow", 0);
        // Behind the DAY on which she forgets it she does not know it.
        with(run, "farm f;cow a f 1 9 1;cow b f 1 9 2;news x plain 1;").due(-1, "allKnow", 0).due(0, "tell", 0, 0).due(-1, "allKnow", 0).due(0, "tell", 1, 0).due(0, "allKnow", 0);
        run.till(1).due(3, "news", 0, 5).due(-1, "allKnow", 0);
        // The last DAY is 399.
        with(run, "farm f;cow a f 1 9 1;news x plain 1;").till(399).due(0, "tell", 0, 0).due(399, "allKnow", 0).till(400).due(1, "cow", 0, 5).due(-1, "allKnow", 0);
    }

    private static void parted() {
        Run run = Quotes.term("PARTED: the fewest hedges without which no talk comes from one FARM to another one; of like ones the least as bits.");
        with(run, "farm a;farm b;farm c;farm d;hedge a b 1;hedge b c 9;hedge c d 2;").due(1, "part", 0, 3).due(1, "parted").due(1, "part", 3, 0).due(1, "parted");
        run.due(1, "part", 1, 3).due(2, "parted").due(1, "part", 2, 3).due(4, "parted");
        with(run, "farm a;farm b;farm c;farm d;hedge a b 1;hedge c d 9;").due(0, "part", 0, 3).due(0, "parted").due(1, "part", 2, 3).due(2, "parted");
        with(run, "farm a;farm b;farm c;farm d;hedge c d 1;hedge b d 1;hedge b c 1;hedge a d 1;hedge a c 1;hedge a b 1;").due(3, "part", 0, 3).due(0b1011, "parted");
        run.due(3, "part", 0, 1).due(0b100110, "parted").due(3, "part", 1, 2).due(0b10101, "parted");
        with(run, "farm a;farm b;").due(0, "part", 0, 1).due(0, "parted");
    }

    private static void tasted() {
        Run run = Quotes.term("sets of NEWS, as many as she may hear yet at most, that she has not heard");
        with(run, "farm f;cow a f 10 9 3;cow b f 1 9 3;news p plain 3;news w war 1;news v war 2;news q plain 3;hears 2;");
        run.tape(0).due(7, "tasted", 0).due(0, "surely").due(1, "ask").tape(10).due(1, "tasted", 0).due(0, "surely").due(0, "ask").tape(13).due(2, "tasted", 0).due(0, "surely");
        run.tape(16).due(1, "tasted", 0).due(9, "surely").due(0, "ask").tape(11).due(0, "tasted", 0).due(9, "surely").tape(19).due(0, "tasted", 0);
        run.due(0, "tell", 0, 0).tape(16).due(1, "tasted", 0).due(8, "surely").due(0, "ask").tape(13).due(1, "tasted", 0).due(0, "surely").tape(0).due(2, "tasted", 0).due(0, "surely");
        run.due(0, "tell", 0, 3).tape(16).due(1, "tasted", 0).due(0, "surely").tape(0).due(0, "tasted", 0).tape(10).due(0, "tasted", 0);
        run = Quotes.term("TASTED by the tape (one byte: what a COW GIVES today)");
        StringBuilder text = new StringBuilder("farm f;cow a f 40 9 3;cow b f 1 9 3;hears 5;");
        for (char n = 'k'; n < 'k' + 5; n++) {
            text.append("news ").append(n).append(" scandal 20 lie;");
        }
        with(run, text.toString());
        for (int n = 0; n < 5; n++) {
            run.due(0, "tell", 1, n);
        }
        // 40 and 50 for each: a byte is 0 to 255, so that 290 is no 34.
        run.tape(40).due(1, "tasted", 0).tape(90).due(5, "tasted", 0).tape(190).due(10, "tasted", 0).tape(240).due(5, "tasted", 0).due(0, "surely").tape(34).due(0, "tasted", 0);
        run.tape(255).due(0, "tasted", 0).tape().due(-1, "tasted", 0).tape(40, 40).due(-1, "tasted", 0).due(0, "count", 5).tape(0).due(0, "tasted", 0);
    }

    private static void ask() {
        Run run = Quotes.term("ASK: the NEWS that is in as many of them as not, as nearly as may be (of like ones the first).");
        with(run, "farm f;cow a f 10 9 3;news o plain 5;news p plain 1;news q plain 2;news r plain 3;hears 2;").tape(13).due(2, "tasted", 0).due(0, "surely").due(1, "ask");
        with(run, "farm f;cow a f 10 9 3;news o plain 5;news p plain 1;news q plain 2;news r plain 3;news s weather 0;hears 2;").tape(13).due(3, "tasted", 0).due(1, "ask");
        with(run, "farm f;cow a f 10 9 3;news o weather 5;news p plain 1;hears 2;").tape(11).due(2, "tasted", 0).due(2, "surely").due(0, "ask").tape(10).due(2, "tasted", 0).due(0, "ask");
        with(run, "farm f;cow a f 10 9 3;news p plain 1;news o weather 5;hears 2;").tape(11).due(2, "tasted", 0).due(1, "surely").due(1, "ask");
    }

    private static void week() {
        Run run = Quotes.term("WEEK of a FARM by the tape (1 to 7 bytes: pails of DAYS one behind the other): the first of the last 30 DAYS (that went by) from which on they fit.");
        with(run, "farm f;cow a f 6 9 1;news x plain 3;").tape(6).due(-1, "week", 0).due(0, "tell", 0, 0).tape(9).due(-1, "week", 0).till(30);
        run.tape(9).due(0, "week", 0).tape(9, 6, 6, 6, 6, 6, 6).due(0, "week", 0).till(31).tape(9).due(-1, "week", 0).tape(6).due(1, "week", 0).tape(9, 6).due(-1, "week", 0);
        run.due(0, "tell", 0, 0).till(32).tape(6, 9).due(30, "week", 0).tape(6, 6, 6, 6, 6, 6, 9).due(25, "week", 0).tape(9).due(31, "week", 0).tape(9, 6).due(-1, "week", 0);
        run.tape(6, 6, 6, 6, 6, 6, 6, 9).due(-1, "week", 0).due(0, "count", 5).tape().due(-1, "week", 0).till(38).tape(9, 6, 6, 6, 6, 6, 6).due(31, "week", 0);
    }

    /** The draws are made here, and what they say is done by tell, find and days on another object. */
    private static void drawn() {
        Quotes.term("for each draw of n x becomes x * 1103515245 + 12345 (an int, wrapping), the draw is (x >>> 8) % n");
        String text = "farm f;farm g;cow a f 5 1 9;cow b g 6 2 9;cow c f 7 9 3;news p plain 3 lie;news q scandal 4 lie;news w war 1;hedge f g 2;hears 1;";
        String one = "farm f;cow a f 5 3 9;news p plain 3 lie;";
        for (int seed : new int[] {0, 1, -1, 7, 1000003, Integer.MIN_VALUE, Integer.MAX_VALUE, -1103515245, 123456789}) {
            drawn(text, 17, seed);
            drawn(one, 20, seed);
            drawn(text, 1, seed);
        }
    }

    private static void drawn(String text, int days, int seed) {
        NewsCows drawn = with(new Run("drawn by " + seed), text).due(days, "drawn", days, seed).cows;
        NewsCows done = with(new Run("done by " + seed), text).cows;
        long x = seed;
        for (int day = 0; day < days; day++) {
            for (int c = 0; c < done.count(1); c++) {
                x = next(x);
                if (draw(x, 3) == 0) {
                    x = next(x);
                    done.tell(c, draw(x, done.count(2)));
                }
            }
            x = next(x);
            if (draw(x, 12) == 0) {
                x = next(x);
                done.find(draw(x, done.count(2)));
            }
            done.days(1);
        }
        Run.alike("drawn by " + seed, Look.around(done), Look.around(drawn));
        Run.alike("ahead of them", "0 -1", drawn.undo() + " " + drawn.undo());
    }

    private static long next(long x) {
        return x * 1103515245L + 12345L & 0xffffffffL;
    }

    private static int draw(long x, int n) {
        return (int) (x / 256 % n);
    }

    private static void newDairy() {
        String text = "farm f;farm g;cow a f 5 1 9;cow b g 6 2 9;cow c f 7 9 3;news p plain 3 lie;news r weather 4 lie;news w war 1;hedge f g 2;hears 2;";
        Run run = Quotes.term("A new DAIRY: DAY 0, nothing told, found, given, no SENTENCE.");
        with(run, text).due(0, "tell", 0, 0).due(0, "find", 0).due(1, "now", 1).due(9, "days", 9).due(0, "tell", 1, 1).due(0, "tell", 2, 2).due(0, "tell", 2, 1);
        run.due(1, "days", 1).due(0, "tell", 1, 2).due(0, "tell", 1, 1).due(0, "find", 1).whole(1, "sentence", "curdled").due(2, "said", -1);
        with(run, text).due(0, "now", 0).due(0, "now", 1).due(0, "now", 2).due(0, "now", 3).due(0, "now", 4).due(-1, "said", -1).due(-1, "pails", 0, 0).due(-1, "undo");
        Run fresh = with(new Run("a new object"), text);
        Run.alike("a new DAIRY", Look.around(fresh.cows), Look.around(run.cows));
        fresh.due(3, "drawn", 3, 5);
        run.due(3, "drawn", 3, 5);
        Run.alike("3 DAYS of a new DAIRY", Look.around(fresh.cows), Look.around(run.cows));
    }

    private static void callThatThrows() {
        String text = "farm f;cow a f 5 1 9;news p plain 3 lie;";
        Run run = with(Quotes.term("A call that throws changes nothing."), text).due(0, "tell", 0, 0).due(2, "days", 2).tape("day");
        Run other = with(new Run("without those that throw"), text).due(0, "tell", 0, 0).due(2, "days", 2).tape("day");
        for (int wrong : new int[] {-1, 1, 8, Integer.MIN_VALUE, Integer.MAX_VALUE}) {
            run.due(Run.THROWS, "cow", wrong, 0).due(Run.THROWS, "farm", wrong, 0);
        }
        run.due(Run.THROWS, "cow", 0, 8).due(Run.THROWS, "cow", 0, -1).due(Run.THROWS, "farm", 0, 4).due(Run.THROWS, "farm", 0, -1).due(3, "count", 5);
        Run.alike("what is so", Look.around(other.cows), Look.around(run.cows));
        Run.alike("what was told", Look.last(other.cows), Look.last(run.cows));
        Run.alike("what comes of it", Look.behind(other.cows), Look.behind(run.cows));
    }
}
