import java.util.Arrays;
import java.util.NoSuchElementException;

/** Farms of cows that give milk by the news that they are told. */
public final class NewsCows {
    public static final int NONE = -1;

    private static final int FARMS = 4;
    private static final int COWS = 8;
    private static final int NEWS = 10;
    private static final int HEDGES = 6;
    private static final int DAYS = 400;
    private static final int DAYS_AT_ONCE = 60;
    private static final int DAYS_KEPT = 30;
    private static final int DAYS_PLANNED = 3;
    private static final int DAYS_TO_KNOW = 200;
    private static final int DAYS_OF_ODDS = 20;
    private static final int SEEDS = 30;
    private static final int WEEK_DAYS = 7;
    private static final int CURDLED_DAYS = 6;
    private static final int ACTS_KEPT = 8;

    private static final int TAPE_BYTES = 940;
    private static final int DAIRY_BYTES = 900;
    private static final int BOOK_BYTES = 400;
    private static final int SENTENCE_BYTES = 200;
    private static final int BOOK_LINES = 40;
    private static final int ONES = 20;
    private static final int ONES_WITHIN = 8;
    private static final int NO_SUCH_LIVES = -1000;

    // One table holds the NAMES of all sorts, because a NAME is told once whatever its sort.
    private static final int FARM_NAMES = 0;
    private static final int COW_NAMES = FARMS;
    private static final int NEWS_NAMES = FARMS + COWS;
    private static final int NAMES = FARMS + COWS + NEWS;

    // The numbers below are the places of these words; a KIND is its place behind 'plain'.
    private static final String WORDS = "farm cow news lie plain scandal war weather hedge hears found day or and not dry curdled at knows heard milk given doubts number";
    private static final int WORDS_TOLD = 24;
    private static final int WORD_FARM = 0;
    private static final int WORD_COW = 1;
    private static final int WORD_NEWS = 2;
    private static final int WORD_LIE = 3;
    private static final int WORD_PLAIN = 4;
    private static final int WORD_WEATHER = 7;
    private static final int WORD_HEDGE = 8;
    private static final int WORD_HEARS = 9;
    private static final int WORD_FOUND = 10;
    private static final int WORD_DAY = 11;
    private static final int WORD_OR = 12;
    private static final int WORD_AND = 13;
    private static final int WORD_NOT = 14;
    private static final int WORD_DRY = 15;
    private static final int WORD_CURDLED = 16;
    private static final int WORD_AT = 17;
    private static final int WORD_KNOWS = 18;
    private static final int WORD_HEARD = 19;
    private static final int WORD_MILK = 20;
    private static final int WORD_GIVEN = 21;
    private static final int WORD_DOUBTS = 22;

    private static final int KIND_PLAIN = 0;
    private static final int KIND_SCANDAL = 1;
    private static final int KIND_WAR = 2;
    private static final int KIND_WEATHER = 3;

    private static final int FAULT_TOKEN = 1;
    private static final int FAULT_NUMBER = 2;
    private static final int FAULT_NAME = 3;
    private static final int FAULT_MORE = 4;

    private final Tape tape;
    private final Dairy dairy;
    private final Dairy spareDairy;
    private final DairyReader dairyReader;
    private final Life life;
    private final Life trial;
    private final History history;
    private final Sentence sentenceNow;
    private final Sentence spareSentence;
    private final Book bookRead;
    private final Choice choice;
    private final Planner planner;
    private final Draws draws;
    private final Image first;
    private final Image second;
    private int partedBits;

    public NewsCows() {
        tape = new Tape();
        dairy = new Dairy();
        spareDairy = new Dairy();
        dairyReader = new DairyReader(tape, spareDairy);
        life = new Life(dairy);
        trial = new Life(dairy);
        history = new History(dairy);
        sentenceNow = new Sentence();
        spareSentence = new Sentence();
        bookRead = new Book();
        choice = new Choice(dairy, life);
        planner = new Planner(dairy);
        draws = new Draws();
        first = new Image();
        second = new Image();
        partedBits = NONE;
    }

    public int feed(int a, int b, int c, int d, int e) {
        if (tape.size + 20 > TAPE_BYTES) {
            return NONE;
        }
        tape.append(a);
        tape.append(b);
        tape.append(c);
        tape.append(d);
        tape.append(e);
        return tape.size;
    }

    public boolean end(int n) {
        if (n < 0 || n > tape.size) {
            return false;
        }
        tape.size = n;
        return true;
    }

    public int dairy() {
        boolean isRead = dairyReader.read();
        tape.size = 0;
        if (!isRead) {
            return -1 - tape.faultPlace;
        }
        dairy.copyFrom(spareDairy);
        life.clear();
        sentenceNow.clear();
        history.clear();
        return dairy.lines;
    }

    public int fault() {
        return tape.fault;
    }

    public int cow(int c, int what) throws NoSuchElementException {
        if (!isCow(c) || what < 0 || what > 7) {
            throw new NoSuchElementException();
        }
        switch (what) {
            case 0: return dairy.farmOf[c];
            case 1: return life.isDry(c) ? 1 : 0;
            case 2: return life.isCurdled(c) ? 1 : 0;
            case 3: return life.doubts[c];
            case 4: return life.heard[c];
            case 5: return life.knows[c];
            case 6: return life.milk(c);
            default: return life.gave[c];
        }
    }

    public int news(int n, int what) {
        if (!isNews(n)) {
            return NONE;
        }
        switch (what) {
            case 0: return dairy.kind[n];
            case 1: return dairy.worth[n];
            case 2: return dairy.isLie(n) ? 1 : 0;
            case 3: return life.found >> n & 1;
            case 4: return cowsWith(life.heard, n);
            case 5: return cowsWith(life.knows, n);
            default: return NONE;
        }
    }

    public int farm(int f, int what) throws NoSuchElementException {
        if (!isFarm(f) || what < 0 || what > 3) {
            throw new NoSuchElementException();
        }
        switch (what) {
            case 0: return dairy.herd[f];
            case 1: return life.pails[f];
            case 2: return milkOfFarm(f);
            default: return dairy.hedgesOf(f);
        }
    }

    public int now(int what) {
        switch (what) {
            case 0: return life.day;
            case 1: return life.dry;
            case 2: return life.found;
            case 3: return life.allPails();
            case 4: return life.tells;
            case 5: return life.talking();
            default: return NONE;
        }
    }

    public int tell(int c, int n) {
        int whyNot = why(c, n);
        if (whyNot == 0) {
            history.keep(life);
            life.hear(c, n);
        }
        return whyNot;
    }

    public int find(int n) {
        if (!isNews(n)) {
            return NONE;
        }
        int whyNot = life.whyNotFound(n);
        if (whyNot == 0) {
            history.keep(life);
            life.findOut(n);
        }
        return whyNot;
    }

    public int days(int n) {
        if (n < 1 || n > DAYS_AT_ONCE) {
            return NONE;
        }
        if (life.day < DAYS) {
            history.keep(life);
        }
        return life.goDays(n);
    }

    public int undo() {
        return history.takeBack(life);
    }

    public int why(int c, int n) {
        return isCow(c) && isNews(n) ? life.whyNotTold(c, n) : NONE;
    }

    public int best(int c) {
        return canBeTold(c) ? choice.most(c) : NONE;
    }

    public int least(int c, int p) {
        return canBeTold(c) && p >= 0 && p <= 999 ? choice.fewestLies(c, p) : NONE;
    }

    public int told() {
        return choice.chosen;
    }

    public int honest(int c) {
        return canBeTold(c) ? choice.mostWithoutLies(c) : NONE;
    }

    public int plan(int c, int n) {
        if (!isCow(c) || n < 1 || n > DAYS_PLANNED || life.day + n > DAYS) {
            return NONE;
        }
        return planner.seek(life, c, n);
    }

    public int planAt(int k) {
        return k >= 0 && k < planner.plannedDays ? planner.planned[k] : NONE;
    }

    public int allKnow(int n) {
        if (!isNews(n) || dairy.cows == 0) {
            return NONE;
        }
        trial.copyFrom(life);
        for (int k = 0; k < DAYS_TO_KNOW && trial.day < DAYS; k++) {
            int today = trial.day;
            trial.talk();
            trial.turn();
            if (cowsWith(trial.knows, n) == dairy.allCows()) {
                return today;
            }
        }
        return NONE;
    }

    public int part(int f, int g) {
        if (!isFarm(f) || !isFarm(g) || f == g) {
            return NONE;
        }
        partedBits = dairy.fewestBetween(f, g);
        return Integer.bitCount(partedBits);
    }

    public int parted() {
        return partedBits;
    }

    public int tasted(int c) {
        int milk = tape.size == 1 ? tape.at(0) : NONE;
        tape.size = 0;
        return milk != NONE && canBeTold(c) ? choice.setsThatGive(c, milk) : NONE;
    }

    public int surely() {
        return choice.sure;
    }

    public int ask() {
        return choice.asked;
    }

    public int dries(int n) {
        return isNews(n) && life.whyNotFound(n) == 0 ? life.wouldDry(n) : NONE;
    }

    public int week(int f) {
        int length = tape.size;
        tape.size = 0;
        if (!isFarm(f) || length < 1 || length > WEEK_DAYS) {
            return NONE;
        }
        for (int day = Math.max(0, life.day - DAYS_KEPT); day + length <= life.day; day++) {
            if (fits(f, day, length)) {
                return day;
            }
        }
        return NONE;
    }

    public int pails(int f, int day) {
        return isFarm(f) ? life.pailsOn(f, day) : NONE;
    }

    public int ahead(int n) {
        if (n < 1 || n > DAYS_AT_ONCE) {
            return NONE;
        }
        trial.copyFrom(life);
        trial.goDays(n);
        return trial.allPails() - life.allPails();
    }

    public int drawn(int n, int seed) {
        if (n < 1 || n > DAYS_AT_ONCE || dairy.news == 0) {
            return NONE;
        }
        if (life.day < DAYS) {
            history.keep(life);
        }
        draws.seed = seed;
        int from = life.day;
        for (int k = 0; k < n && life.day < DAYS; k++) {
            draws.tellAndFind(life);
            life.goDays(1);
        }
        return life.day - from;
    }

    public int odds(int c, int n, int seed) {
        if (!isCow(c) || n < 1 || n > SEEDS || dairy.news == 0) {
            return NONE;
        }
        int dried = 0;
        for (int k = 0; k < n; k++) {
            trial.copyFrom(life);
            draws.seed = seed + k;
            if (driesByDraws(c)) {
                dried++;
            }
        }
        return dried;
    }

    public int book(int lives) {
        if (lives != 0 && lives != 1) {
            return NO_SUCH_LIVES;
        }
        boolean isRead = bookRead.read(tape, dairy);
        tape.size = 0;
        if (!isRead) {
            return -2 - tape.faultPlace;
        }
        trial.copyFrom(life);
        int wrong = bookRead.judge(trial);
        // A BOOK of which no LINE was lived is no act that can be undone.
        if (lives == 1 && bookRead.rightLines > 0) {
            history.keep(life);
            life.copyFrom(trial);
        }
        return wrong;
    }

    public int written(int what) {
        if (!bookRead.isJudged) {
            return NONE;
        }
        switch (what) {
            case 0: return bookRead.whyWrong;
            case 1: return bookRead.rightLines;
            case 2: return bookRead.dayThen;
            case 3: return bookRead.dryThen;
            default: return NONE;
        }
    }

    public int sentence() {
        boolean isRead = spareSentence.read(tape, dairy);
        tape.size = 0;
        if (!isRead) {
            return -1 - tape.faultPlace;
        }
        sentenceNow.copyFrom(spareSentence);
        return sentenceNow.ones;
    }

    public int said(int k) {
        if (sentenceNow.ones == 0) {
            return NONE;
        }
        int seen = 0;
        for (int c = 0; c < dairy.cows; c++) {
            if (sentenceNow.holds(life, c)) {
                if (seen == k) {
                    return c;
                }
                seen++;
            }
        }
        return k == NONE ? seen : NONE;
    }

    public boolean image(int k) {
        if (k != 0 && k != 1) {
            return false;
        }
        Image place = k == 0 ? first : second;
        place.isKept = true;
        place.dairy.copyFrom(dairy);
        place.life.copyFrom(life);
        place.sentence.copyFrom(sentenceNow);
        return true;
    }

    public boolean restore(int k) {
        if (k != 0 && k != 1) {
            return false;
        }
        Image place = k == 0 ? first : second;
        if (!place.isKept) {
            return false;
        }
        dairy.copyFrom(place.dairy);
        life.copyFrom(place.life);
        sentenceNow.copyFrom(place.sentence);
        history.clear();
        return true;
    }

    public int count(int what) {
        switch (what) {
            case 0: return dairy.farms;
            case 1: return dairy.cows;
            case 2: return dairy.news;
            case 3: return dairy.hedges;
            case 4: return dairy.hears;
            case 5: return tape.size;
            default: return NONE;
        }
    }

    private boolean isFarm(int f) {
        return f >= 0 && f < dairy.farms;
    }

    private boolean isCow(int c) {
        return c >= 0 && c < dairy.cows;
    }

    private boolean isNews(int n) {
        return n >= 0 && n < dairy.news;
    }

    private boolean canBeTold(int c) {
        return isCow(c) && !life.isDry(c);
    }

    private int cowsWith(int[] newsOfCows, int n) {
        int bits = 0;
        for (int c = 0; c < dairy.cows; c++) {
            bits |= (newsOfCows[c] >> n & 1) << c;
        }
        return bits;
    }

    private int milkOfFarm(int f) {
        int sum = 0;
        for (int c = 0; c < dairy.cows; c++) {
            if (dairy.farmOf[c] == f) {
                sum += life.milk(c);
            }
        }
        return sum;
    }

    // The tape counts as empty by now, but its bytes still stand there.
    private boolean fits(int f, int day, int length) {
        for (int k = 0; k < length; k++) {
            if (life.pailsOn(f, day + k) != tape.at(k)) {
                return false;
            }
        }
        return true;
    }

    // Who is dry stays so, and milk does not matter for it.
    private boolean driesByDraws(int c) {
        for (int k = 0; k < DAYS_OF_ODDS && trial.day < DAYS && !trial.isDry(c); k++) {
            draws.tellAndFind(trial);
            trial.talk();
            trial.turn();
        }
        return trial.isDry(c);
    }

    /** The bytes that were fed, and the TOKENS that they are read as. */
    private static final class Tape {
        static final int END = 0;
        static final int NO_TOKEN = 1;
        static final int WORD = 2;
        static final int NAME = 3;
        static final int NUMBER = 4;
        static final int SIGN = 5;
        private static final int TOKENS = DAIRY_BYTES + 1;

        private final byte[] bytes = new byte[TAPE_BYTES];
        int size;
        private final long[] words = new long[WORDS_TOLD];
        // The TOKENS of a text: a told WORD's number, a NUMBER's value or a sign's byte; the letters of a WORD.
        private final int[] places = new int[TOKENS];
        private final int[] kinds = new int[TOKENS];
        private final int[] values = new int[TOKENS];
        private final long[] spellings = new long[TOKENS];
        private int tokens;
        private int ahead;
        private boolean isTooLong;
        // The TOKEN at hand.
        private int place;
        int kind;
        int value;
        long spelling;
        int fault;
        int faultPlace;

        Tape() {
            int word = 0;
            for (int k = 0; k < WORDS.length(); k++) {
                char sign = WORDS.charAt(k);
                if (sign == ' ') {
                    word++;
                } else if (word < WORDS_TOLD) {
                    words[word] = withLetter(words[word], sign);
                }
            }
        }

        private static long withLetter(long word, int letter) {
            return word << 5 | (letter & 31);
        }

        private static boolean isLetter(int b) {
            return b >= 'a' && b <= 'z';
        }

        private static boolean isDigit(int b) {
            return b >= '0' && b <= '9';
        }

        void append(int number) {
            for (int shift = 24; shift >= 0; shift -= 8) {
                if (size < TAPE_BYTES) {
                    bytes[size] = (byte) (number >>> shift);
                    size++;
                }
            }
        }

        int at(int k) {
            return k >= 0 && k < TAPE_BYTES ? bytes[k] & 255 : NONE;
        }

        /** Reads all TOKENS that begin within so many bytes; the end is one of them. */
        void start(int mostBytes) {
            int stop = Math.min(size, mostBytes);
            isTooLong = size > mostBytes;
            fault = 0;
            faultPlace = 0;
            tokens = 0;
            ahead = 0;
            int read = 0;
            for (int k = 0; k < stop; k++) {
                int b = at(k);
                if (k >= read && (isLetter(b) || isDigit(b))) {
                    read = k + addRun(k);
                } else if (k >= read && b != ' ' && b != '\n') {
                    add(k, ";<=>()".indexOf((char) b) >= 0 ? SIGN : NO_TOKEN, b, 0);
                }
            }
            add(stop, END, 0, 0);
        }

        private int addRun(int from) {
            int length = 0;
            int letters = 0;
            int number = 0;
            long letterBits = 0;
            for (int k = from; k < size && (isLetter(at(k)) || isDigit(at(k))); k++) {
                length++;
                if (isLetter(at(k))) {
                    letterBits = withLetter(letterBits, at(k));
                    letters++;
                } else {
                    number = number * 10 + at(k) - '0';
                }
            }
            if (letters == length && length <= 7) {
                int word = toldWord(letterBits);
                add(from, word == NONE ? NAME : WORD, word, letterBits);
            } else {
                add(from, letters == 0 && length <= 3 ? NUMBER : NO_TOKEN, number, 0);
            }
            return length;
        }

        private int toldWord(long letterBits) {
            for (int k = 0; k < WORDS_TOLD; k++) {
                if (words[k] == letterBits) {
                    return k;
                }
            }
            return NONE;
        }

        private void add(int from, int tokenKind, int tokenValue, long letterBits) {
            if (tokens < TOKENS) {
                places[tokens] = from;
                kinds[tokens] = tokenKind;
                values[tokens] = tokenValue;
                spellings[tokens] = letterBits;
                tokens++;
            }
        }

        void next() {
            if (ahead >= 0 && ahead < tokens && ahead < TOKENS) {
                place = places[ahead];
                kind = kinds[ahead];
                value = values[ahead];
                spelling = spellings[ahead];
                ahead++;
            }
        }

        boolean fail(int faultKind) {
            fault = faultKind;
            faultPlace = place;
            return false;
        }

        int word() {
            return kind == WORD ? value : NONE;
        }

        boolean isSign(int sign) {
            return kind == SIGN && value == sign;
        }

        boolean mustBeSign(int sign) {
            return isSign(sign) || fail(FAULT_TOKEN);
        }

        boolean closesLine() {
            next();
            return mustBeSign(';');
        }

        boolean nextNumber(int least, int greatest) {
            next();
            if (kind != NUMBER) {
                return fail(FAULT_TOKEN);
            }
            return value >= least && value <= greatest || fail(FAULT_NUMBER);
        }

        boolean nextLine() {
            next();
            return kind != END;
        }

        boolean mustEnd() {
            return kind == END && !isTooLong || fail(FAULT_TOKEN);
        }
    }

    /** What a DAIRY's text tells. */
    private static final class Dairy {
        int lines;
        int farms;
        int cows;
        int news;
        int hedges;
        int hears = 3;
        int lies;
        int wars;
        final long[] names = new long[NAMES];
        final int[] herd = new int[FARMS];
        final int[] farmOf = new int[COWS];
        final int[] gives = new int[COWS];
        final int[] trust = new int[COWS];
        final int[] keeps = new int[COWS];
        final int[] kind = new int[NEWS];
        final int[] worth = new int[NEWS];
        final int[] oneSide = new int[HEDGES];
        final int[] otherSide = new int[HEDGES];
        final int[] every = new int[HEDGES];

        void clear() {
            lines = 0;
            farms = 0;
            cows = 0;
            news = 0;
            hedges = 0;
            hears = 3;
            lies = 0;
            wars = 0;
            Arrays.fill(names, 0);
            Arrays.fill(herd, 0);
        }

        void copyFrom(Dairy other) {
            lines = other.lines;
            farms = other.farms;
            cows = other.cows;
            news = other.news;
            hedges = other.hedges;
            hears = other.hears;
            lies = other.lies;
            wars = other.wars;
            System.arraycopy(other.names, 0, names, 0, NAMES);
            System.arraycopy(other.herd, 0, herd, 0, FARMS);
            System.arraycopy(other.farmOf, 0, farmOf, 0, COWS);
            System.arraycopy(other.gives, 0, gives, 0, COWS);
            System.arraycopy(other.trust, 0, trust, 0, COWS);
            System.arraycopy(other.keeps, 0, keeps, 0, COWS);
            System.arraycopy(other.kind, 0, kind, 0, NEWS);
            System.arraycopy(other.worth, 0, worth, 0, NEWS);
            System.arraycopy(other.oneSide, 0, oneSide, 0, HEDGES);
            System.arraycopy(other.otherSide, 0, otherSide, 0, HEDGES);
            System.arraycopy(other.every, 0, every, 0, HEDGES);
        }

        boolean isLie(int n) {
            return (lies >> n & 1) == 1;
        }

        int allCows() {
            return (1 << cows) - 1;
        }

        int allNews() {
            return (1 << news) - 1;
        }

        private int slotOf(long spelling) {
            for (int k = 0; k < NAMES; k++) {
                if (names[k] == spelling) {
                    return k;
                }
            }
            return NONE;
        }

        /** Takes the next TOKEN as a NAME that was not told yet. */
        boolean nextNewName(Tape tape, int slot) {
            tape.next();
            if (tape.kind != Tape.NAME) {
                return tape.fail(FAULT_TOKEN);
            }
            if (slotOf(tape.spelling) != NONE || slot < 0 || slot >= NAMES) {
                return tape.fail(FAULT_NAME);
            }
            names[slot] = tape.spelling;
            return true;
        }

        /** The number of what the TOKEN at hand names; NONE, and a FAULT, if it names none of the sort. */
        int named(Tape tape, int firstSlot, int slots) {
            if (tape.kind != Tape.NAME) {
                tape.fail(FAULT_TOKEN);
                return NONE;
            }
            int number = slotOf(tape.spelling) - firstSlot;
            if (number < 0 || number >= slots) {
                tape.fail(FAULT_NAME);
                return NONE;
            }
            return number;
        }

        int hedgesOf(int f) {
            int bits = 0;
            for (int h = 0; h < hedges; h++) {
                if (oneSide[h] == f || otherSide[h] == f) {
                    bits |= 1 << h;
                }
            }
            return bits;
        }

        boolean hasHedge(int f, int g) {
            return (hedgesOf(f) & hedgesOf(g)) != 0;
        }

        int fewestBetween(int f, int g) {
            int fewest = (1 << hedges) - 1;
            for (int gone = 0; gone < 1 << hedges; gone++) {
                if (Integer.bitCount(gone) < Integer.bitCount(fewest) && !comesTo(f, g, gone)) {
                    fewest = gone;
                }
            }
            return fewest;
        }

        private boolean comesTo(int f, int g, int gone) {
            int reached = 1 << f;
            for (int step = 1; step < farms; step++) {
                for (int h = 0; h < hedges; h++) {
                    int sides = 1 << oneSide[h] | 1 << otherSide[h];
                    if ((gone >> h & 1) == 0 && (reached & sides) != 0) {
                        reached |= sides;
                    }
                }
            }
            return (reached >> g & 1) == 1;
        }
    }

    /** Reads the tape as a DAIRY. */
    private static final class DairyReader {
        private final Tape tape;
        private final Dairy dairy;
        private boolean isHearsTold;

        DairyReader(Tape tape, Dairy dairy) {
            this.tape = tape;
            this.dairy = dairy;
        }

        boolean read() {
            dairy.clear();
            isHearsTold = false;
            tape.start(DAIRY_BYTES);
            for (int k = 0; k <= DAIRY_BYTES && tape.nextLine(); k++) {
                if (!readLine()) {
                    return false;
                }
                dairy.lines++;
            }
            return tape.mustEnd();
        }

        private boolean readLine() {
            switch (tape.word()) {
                case WORD_FARM: return readFarm();
                case WORD_COW: return readCow();
                case WORD_NEWS: return readNews();
                case WORD_HEDGE: return readHedge();
                case WORD_HEARS: return readHears();
                default: return tape.fail(FAULT_TOKEN);
            }
        }

        private boolean readFarm() {
            int f = dairy.farms;
            if (f >= FARMS) {
                return tape.fail(FAULT_MORE);
            }
            if (!dairy.nextNewName(tape, FARM_NAMES + f)) {
                return false;
            }
            dairy.farms++;
            return tape.closesLine();
        }

        private boolean readCow() {
            int c = dairy.cows;
            if (c >= COWS) {
                return tape.fail(FAULT_MORE);
            }
            if (!dairy.nextNewName(tape, COW_NAMES + c)) {
                return false;
            }
            tape.next();
            int f = dairy.named(tape, FARM_NAMES, FARMS);
            if (f < 0 || f >= FARMS || !tape.nextNumber(1, 40)) {
                return false;
            }
            dairy.farmOf[c] = f;
            dairy.herd[f] |= 1 << c;
            dairy.gives[c] = tape.value;
            if (!tape.nextNumber(1, 9)) {
                return false;
            }
            dairy.trust[c] = tape.value;
            if (!tape.nextNumber(1, 30)) {
                return false;
            }
            dairy.keeps[c] = tape.value;
            dairy.cows++;
            return tape.closesLine();
        }

        private boolean readNews() {
            int n = dairy.news;
            if (n >= NEWS) {
                return tape.fail(FAULT_MORE);
            }
            if (!dairy.nextNewName(tape, NEWS_NAMES + n)) {
                return false;
            }
            tape.next();
            int word = tape.word();
            if (word < WORD_PLAIN || word > WORD_WEATHER) {
                return tape.fail(FAULT_TOKEN);
            }
            dairy.kind[n] = word - WORD_PLAIN;
            if (dairy.kind[n] == KIND_WAR) {
                dairy.wars |= 1 << n;
            }
            if (!tape.nextNumber(0, 20)) {
                return false;
            }
            dairy.worth[n] = tape.value;
            dairy.news++;
            tape.next();
            if (tape.word() == WORD_LIE) {
                dairy.lies |= 1 << n;
                tape.next();
            }
            return tape.mustBeSign(';');
        }

        private boolean readHedge() {
            tape.next();
            int f = dairy.named(tape, FARM_NAMES, FARMS);
            if (f < 0) {
                return false;
            }
            tape.next();
            int g = dairy.named(tape, FARM_NAMES, FARMS);
            if (g < 0) {
                return false;
            }
            int h = dairy.hedges;
            if (f == g || dairy.hasHedge(f, g) || h >= HEDGES) {
                return tape.fail(FAULT_NAME);
            }
            if (!tape.nextNumber(1, 9)) {
                return false;
            }
            dairy.oneSide[h] = f;
            dairy.otherSide[h] = g;
            dairy.every[h] = tape.value;
            dairy.hedges++;
            return tape.closesLine();
        }

        private boolean readHears() {
            if (isHearsTold) {
                return tape.fail(FAULT_NAME);
            }
            if (!tape.nextNumber(1, 5)) {
                return false;
            }
            isHearsTold = true;
            dairy.hears = tape.value;
            return tape.closesLine();
        }
    }

    /** All that is so on a DAY, and what came of it so far. */
    private static final class Life {
        private static final int NO_WAR_YET = -100;

        private final Dairy dairy;
        int day;
        int tells;
        int dry;
        int found;
        // On which DAY a NEWS that she knows came to a COW last.
        private final int[] came = new int[COWS * NEWS];
        final int[] knows = new int[COWS];
        final int[] heard = new int[COWS];
        private final int[] stale = new int[COWS];
        private final int[] heardBefore = new int[COWS];
        private final int[] warDay = new int[COWS];
        final int[] doubts = new int[COWS];
        final int[] gave = new int[COWS];
        final int[] pails = new int[FARMS];
        private final int[] lately = new int[DAYS_KEPT * FARMS];
        // What TALK brings; only of use while it goes on.
        private final int[] farmKnows = new int[FARMS];
        private final int[] farmLearns = new int[FARMS];

        Life(Dairy dairy) {
            this.dairy = dairy;
            Arrays.fill(warDay, NO_WAR_YET);
        }

        void clear() {
            day = 0;
            tells = 0;
            dry = 0;
            found = 0;
            Arrays.fill(knows, 0);
            Arrays.fill(heard, 0);
            Arrays.fill(stale, 0);
            Arrays.fill(heardBefore, 0);
            Arrays.fill(warDay, NO_WAR_YET);
            Arrays.fill(doubts, 0);
            Arrays.fill(gave, 0);
            Arrays.fill(pails, 0);
        }

        void copyFrom(Life other) {
            day = other.day;
            tells = other.tells;
            dry = other.dry;
            found = other.found;
            System.arraycopy(other.came, 0, came, 0, COWS * NEWS);
            System.arraycopy(other.knows, 0, knows, 0, COWS);
            System.arraycopy(other.heard, 0, heard, 0, COWS);
            System.arraycopy(other.stale, 0, stale, 0, COWS);
            System.arraycopy(other.heardBefore, 0, heardBefore, 0, COWS);
            System.arraycopy(other.warDay, 0, warDay, 0, COWS);
            System.arraycopy(other.doubts, 0, doubts, 0, COWS);
            System.arraycopy(other.gave, 0, gave, 0, COWS);
            System.arraycopy(other.pails, 0, pails, 0, FARMS);
            System.arraycopy(other.lately, 0, lately, 0, DAYS_KEPT * FARMS);
        }

        boolean isDry(int c) {
            return (dry >> c & 1) == 1;
        }

        boolean isCurdled(int c) {
            return day - warDay[c] <= CURDLED_DAYS;
        }

        int whyNotTold(int c, int n) {
            if (isDry(c)) {
                return 1;
            }
            if ((heard[c] >> n & 1) == 1) {
                return 2;
            }
            return Integer.bitCount(heard[c]) >= dairy.hears ? 3 : 0;
        }

        void hear(int c, int n) {
            int bit = 1 << n;
            stale[c] |= knows[c] & bit;
            heard[c] |= bit;
            comes(c, n);
            if (dairy.kind[n] == KIND_WAR) {
                warDay[c] = day;
            }
            tells++;
        }

        private void comes(int c, int n) {
            knows[c] |= 1 << n;
            came[c * NEWS + n] = day;
        }

        int whyNotFound(int n) {
            if (!dairy.isLie(n)) {
                return 1;
            }
            return (found >> n & 1) == 1 ? 2 : 0;
        }

        void findOut(int n) {
            int dried = wouldDry(n);
            for (int c = 0; c < dairy.cows; c++) {
                if (wouldDoubt(c, n)) {
                    doubts[c]++;
                }
            }
            dry |= dried;
            found |= 1 << n;
        }

        private boolean wouldDoubt(int c, int n) {
            return !isDry(c) && (knows[c] >> n & 1) == 1;
        }

        int wouldDry(int n) {
            int bits = 0;
            for (int c = 0; c < dairy.cows; c++) {
                if (wouldDoubt(c, n) && doubts[c] + 1 >= dairy.trust[c]) {
                    bits |= 1 << c;
                }
            }
            return bits;
        }

        int milk(int c) {
            return isDry(c) || isCurdled(c) ? 0 : Math.max(0, sumOf(c));
        }

        /** What a COW that is neither dry nor CURDLED gives, but it may be below 0 yet. */
        int sumOf(int c) {
            int sum = dairy.gives[c];
            int others = heardByOthers(c);
            for (int n = 0; n < dairy.news; n++) {
                if ((heard[c] >> n & 1) == 1) {
                    sum += addedBy(n, others, stale[c]);
                }
                if ((heardBefore[c] >> n & 1) == 1 && dairy.kind[n] == KIND_WEATHER) {
                    sum += (dairy.lies >> n & 1) == 1 ? -dairy.worth[n] : dairy.worth[n];
                }
            }
            return sum;
        }

        /** What NEWS add to the milk of a COW that hears them, by what others of her FARM heard and what is STALE to her. */
        int addedBy(int n, int others, int stales) {
            if (dairy.kind[n] != KIND_PLAIN && dairy.kind[n] != KIND_SCANDAL) {
                return 0;
            }
            int added = dairy.worth[n];
            if (((dairy.lies & ~found) >> n & 1) == 1) {
                added += 5;
            }
            if (dairy.kind[n] == KIND_SCANDAL && (others >> n & 1) == 1) {
                added *= 2;
            }
            return (stales >> n & 1) == 1 ? added / 2 : added;
        }

        int heardByOthers(int c) {
            int bits = 0;
            for (int other = 0; other < dairy.cows; other++) {
                if (other != c && dairy.farmOf[other] == dairy.farmOf[c]) {
                    bits |= heard[other];
                }
            }
            return bits;
        }

        int goDays(int most) {
            int from = day;
            for (int k = 0; k < most && day < DAYS; k++) {
                fillPails();
                talk();
                turn();
            }
            return day - from;
        }

        private void fillPails() {
            int today = day % DAYS_KEPT * FARMS;
            for (int f = 0; f < FARMS; f++) {
                lately[today + f] = 0;
            }
            for (int c = 0; c < dairy.cows; c++) {
                int given = milk(c);
                int f = dairy.farmOf[c];
                gave[c] += given;
                pails[f] += given;
                lately[today + f] += given;
            }
        }

        int talking() {
            int bits = 0;
            for (int h = 0; h < dairy.hedges; h++) {
                int every = dairy.every[h];
                if (every > 0 && (day + 1) % every == 0) {
                    bits |= 1 << h;
                }
            }
            return bits;
        }

        // What comes over all hedges is gathered first, because all of it is as it was ahead of all TALK.
        void talk() {
            int talkingNow = talking();
            if (talkingNow == 0) {
                return;
            }
            Arrays.fill(farmKnows, 0);
            Arrays.fill(farmLearns, 0);
            for (int c = 0; c < dairy.cows; c++) {
                farmKnows[dairy.farmOf[c]] |= knows[c];
            }
            for (int h = 0; h < dairy.hedges; h++) {
                if ((talkingNow >> h & 1) == 1) {
                    farmLearns[dairy.oneSide[h]] |= farmKnows[dairy.otherSide[h]];
                    farmLearns[dairy.otherSide[h]] |= farmKnows[dairy.oneSide[h]];
                }
            }
            for (int c = 0; c < dairy.cows; c++) {
                allComes(c, farmLearns[dairy.farmOf[c]]);
            }
        }

        private void allComes(int c, int bits) {
            for (int n = 0; n < dairy.news; n++) {
                if ((bits >> n & 1) == 1) {
                    comes(c, n);
                }
            }
        }

        void turn() {
            day++;
            for (int c = 0; c < dairy.cows; c++) {
                heardBefore[c] = heard[c];
                heard[c] = 0;
                stale[c] = 0;
                forget(c);
            }
        }

        private void forget(int c) {
            for (int n = 0; n < dairy.news && knows[c] >> n != 0; n++) {
                if (day - came[c * NEWS + n] > dairy.keeps[c]) {
                    knows[c] &= ~(1 << n);
                }
            }
        }

        int allPails() {
            int sum = 0;
            for (int f = 0; f < FARMS; f++) {
                sum += pails[f];
            }
            return sum;
        }

        int pailsOn(int f, int then) {
            if (then < 0 || then >= day || then < day - DAYS_KEPT) {
                return NONE;
            }
            return lately[then % DAYS_KEPT * FARMS + f];
        }
    }

    /** How it was ahead of the latest acts, as a ring. */
    private static final class History {
        private final Life[] kept = new Life[ACTS_KEPT];
        private int newest;
        private int size;

        History(Dairy dairy) {
            for (int k = 0; k < ACTS_KEPT; k++) {
                kept[k] = new Life(dairy);
            }
        }

        void clear() {
            size = 0;
        }

        void keep(Life life) {
            newest = (newest + 1) % ACTS_KEPT;
            Life place = kept[newest];
            if (place != null) {
                place.copyFrom(life);
                size = Math.min(size + 1, ACTS_KEPT);
            }
        }

        int takeBack(Life life) {
            Life place = kept[newest];
            if (size == 0 || place == null) {
                return NONE;
            }
            life.copyFrom(place);
            newest = (newest + ACTS_KEPT - 1) % ACTS_KEPT;
            size--;
            return size;
        }
    }

    /** A BOOK, and how the latest one without a FAULT was judged. */
    private static final class Book {
        private final int[] act = new int[BOOK_LINES];
        private final int[] who = new int[BOOK_LINES];
        private final int[] what = new int[BOOK_LINES];
        private int lines;
        boolean isJudged;
        int whyWrong;
        int rightLines;
        int dayThen;
        int dryThen;

        boolean read(Tape tape, Dairy dairy) {
            lines = 0;
            tape.start(BOOK_BYTES);
            for (int k = 0; k <= BOOK_BYTES && tape.nextLine(); k++) {
                if (!readLine(tape, dairy)) {
                    return false;
                }
            }
            return tape.mustEnd();
        }

        private boolean readLine(Tape tape, Dairy dairy) {
            int word = tape.word();
            boolean isHeard = word != WORD_FOUND && word != WORD_DAY;
            int c = isHeard ? dairy.named(tape, COW_NAMES, COWS) : 0;
            if (c < 0) {
                return false;
            }
            if (lines >= BOOK_LINES) {
                return tape.fail(FAULT_MORE);
            }
            if (isHeard) {
                tape.next();
                word = tape.word();
                if (word != WORD_HEARS) {
                    return tape.fail(FAULT_TOKEN);
                }
            }
            int arg = readArg(tape, dairy, word);
            if (arg < 0 || !tape.closesLine()) {
                return false;
            }
            act[lines] = word;
            who[lines] = c;
            what[lines] = arg;
            lines++;
            return true;
        }

        private static int readArg(Tape tape, Dairy dairy, int word) {
            if (word == WORD_DAY) {
                return tape.nextNumber(1, DAYS_AT_ONCE) ? tape.value : NONE;
            }
            tape.next();
            return dairy.named(tape, NEWS_NAMES, NEWS);
        }

        int judge(Life life) {
            isJudged = true;
            whyWrong = 0;
            rightLines = 0;
            for (int k = 0; k < lines && whyWrong == 0; k++) {
                whyWrong = live(life, k);
                rightLines = whyWrong == 0 ? k + 1 : k;
            }
            dayThen = life.day;
            dryThen = life.dry;
            return whyWrong == 0 ? NONE : rightLines;
        }

        private int live(Life life, int k) {
            if (act[k] == WORD_DAY) {
                if (life.day + what[k] > DAYS) {
                    return 21;
                }
                life.goDays(what[k]);
                return 0;
            }
            if (act[k] == WORD_FOUND) {
                int whyNot = life.whyNotFound(what[k]);
                if (whyNot != 0) {
                    return 10 + whyNot;
                }
                life.findOut(what[k]);
                return 0;
            }
            int whyNot = life.whyNotTold(who[k], what[k]);
            if (whyNot == 0) {
                life.hear(who[k], what[k]);
            }
            return whyNot;
        }
    }

    /** A SENTENCE, kept so that each step stands behind the steps that it joins. */
    private static final class Sentence {
        private static final int STEPS = 2 * ONES;

        private final int[] step = new int[STEPS];
        private final int[] sign = new int[STEPS];
        private final int[] arg = new int[STEPS];
        private int size;
        int ones;

        void clear() {
            size = 0;
            ones = 0;
        }

        void copyFrom(Sentence other) {
            size = other.size;
            ones = other.ones;
            System.arraycopy(other.step, 0, step, 0, STEPS);
            System.arraycopy(other.sign, 0, sign, 0, STEPS);
            System.arraycopy(other.arg, 0, arg, 0, STEPS);
        }

        boolean read(Tape tape, Dairy dairy) {
            clear();
            tape.start(SENTENCE_BYTES);
            tape.next();
            return readCond(tape, dairy, 1) && tape.mustEnd();
        }

        // Each 'or' and 'and' brings a ONE more, so that there are fewer of them than ONES.
        private boolean readCond(Tape tape, Dairy dairy, int depth) {
            if (!readAll(tape, dairy, depth)) {
                return false;
            }
            for (int k = 0; k < ONES && tape.word() == WORD_OR; k++) {
                tape.next();
                if (!readAll(tape, dairy, depth)) {
                    return false;
                }
                put(WORD_OR, 0, 0);
            }
            return true;
        }

        private boolean readAll(Tape tape, Dairy dairy, int depth) {
            if (!readOne(tape, dairy, depth)) {
                return false;
            }
            for (int k = 0; k < ONES && tape.word() == WORD_AND; k++) {
                tape.next();
                if (!readOne(tape, dairy, depth)) {
                    return false;
                }
                put(WORD_AND, 0, 0);
            }
            return true;
        }

        private boolean readOne(Tape tape, Dairy dairy, int depth) {
            boolean isBracket = tape.isSign('(');
            int word = tape.word();
            if (!isBracket && word < WORD_NOT) {
                return tape.fail(FAULT_TOKEN);
            }
            if (ones >= ONES || depth > ONES_WITHIN) {
                return tape.fail(FAULT_MORE);
            }
            ones++;
            if (isBracket) {
                tape.next();
                if (!readCond(tape, dairy, depth + 1) || !tape.mustBeSign(')')) {
                    return false;
                }
            } else if (word == WORD_NOT) {
                tape.next();
                if (!readOne(tape, dairy, depth + 1)) {
                    return false;
                }
                put(WORD_NOT, 0, 0);
                return true;
            } else if (!readPlainOne(tape, dairy, word)) {
                return false;
            }
            tape.next();
            return true;
        }

        private boolean readPlainOne(Tape tape, Dairy dairy, int word) {
            int compared = 0;
            int value = 0;
            if (word == WORD_AT) {
                tape.next();
                value = dairy.named(tape, FARM_NAMES, FARMS);
            } else if (word == WORD_KNOWS || word == WORD_HEARD) {
                tape.next();
                value = dairy.named(tape, NEWS_NAMES, NEWS);
            } else if (word != WORD_DRY && word != WORD_CURDLED) {
                tape.next();
                compared = tape.value;
                if (!tape.isSign('<') && !tape.isSign('=') && !tape.isSign('>')) {
                    return tape.fail(FAULT_TOKEN);
                }
                value = tape.nextNumber(0, 999) ? tape.value : NONE;
            }
            put(word, compared, value);
            return value >= 0;
        }

        private void put(int word, int compared, int value) {
            if (size < STEPS) {
                step[size] = word;
                sign[size] = compared;
                arg[size] = value;
                size++;
            }
        }

        // What is so of the steps that are not joined yet stands in the bits, the latest lowest.
        boolean holds(Life life, int c) {
            int bits = 0;
            for (int k = 0; k < size; k++) {
                int last = bits & 1;
                if (step[k] == WORD_OR) {
                    bits = bits >> 1 | last;
                } else if (step[k] == WORD_AND) {
                    bits = bits >> 1 & (last | ~1);
                } else if (step[k] == WORD_NOT) {
                    bits ^= 1;
                } else {
                    bits = bits << 1 | (isSo(life, c, k) ? 1 : 0);
                }
            }
            return (bits & 1) == 1;
        }

        private boolean isSo(Life life, int c, int k) {
            switch (step[k]) {
                case WORD_DRY: return life.isDry(c);
                case WORD_CURDLED: return life.isCurdled(c);
                case WORD_AT: return life.dairy.farmOf[c] == arg[k];
                case WORD_KNOWS: return (life.knows[c] >> arg[k] & 1) == 1;
                case WORD_HEARD: return (life.heard[c] >> arg[k] & 1) == 1;
                case WORD_MILK: return compares(life.milk(c), k);
                case WORD_GIVEN: return compares(life.gave[c], k);
                case WORD_DOUBTS: return compares(life.doubts[c], k);
                default: return compares(c, k);
            }
        }

        private boolean compares(int value, int k) {
            if (sign[k] == '<') {
                return value < arg[k];
            }
            return sign[k] == '>' ? value > arg[k] : value == arg[k];
        }
    }

    /** What is kept in a place of images. */
    private static final class Image {
        boolean isKept;
        final Dairy dairy = new Dairy();
        final Life life = new Life(dairy);
        final Sentence sentence = new Sentence();
    }

    /** Which NEWS to tell a COW today, and which she may have been told. */
    private static final class Choice {
        private final Dairy dairy;
        private final Life life;
        // What a set of NEWS, as bits, would add.
        private final int[] adds = new int[1 << NEWS];
        private final int[] setsWith = new int[NEWS];
        private int free;
        private int room;
        private int sum;
        private boolean isCurdled;
        int chosen = NONE;
        int sure = NONE;
        int asked = NONE;

        Choice(Dairy dairy, Life life) {
            this.dairy = dairy;
            this.life = life;
        }

        int most(int c) {
            lookAt(c);
            chosen = bestOf(free & ~dairy.wars);
            return milkBy(chosen);
        }

        int mostWithoutLies(int c) {
            lookAt(c);
            return milkBy(bestOf(free & ~dairy.wars & ~dairy.lies));
        }

        private void lookAt(int c) {
            free = dairy.allNews() & ~life.heard[c];
            room = dairy.hears - Integer.bitCount(life.heard[c]);
            sum = life.sumOf(c);
            isCurdled = life.isCurdled(c);
            int others = life.heardByOthers(c);
            adds[0] = 0;
            for (int n = 0; n < dairy.news; n++) {
                int added = life.addedBy(n, others, life.knows[c]);
                for (int set = 0; set < 1 << n; set++) {
                    adds[set | 1 << n] = adds[set] + added;
                }
            }
        }

        private int milkBy(int set) {
            return isCurdled || (set & dairy.wars) != 0 ? 0 : Math.max(0, sum + adds[set]);
        }

        private static int setAfter(int set, int all) {
            return (set - all) & all;
        }

        // Sets come by their bits, the least first, so that of like ones the first one stays.
        private int bestOf(int all) {
            int best = 0;
            int sets = 1 << Integer.bitCount(all);
            int set = 0;
            for (int k = 1; k < sets; k++) {
                set = setAfter(set, all);
                int size = Integer.bitCount(set);
                if (size <= room) {
                    int more = milkBy(set) - milkBy(best);
                    if (more > 0 || more == 0 && size < Integer.bitCount(best)) {
                        best = set;
                    }
                }
            }
            return best;
        }

        int fewestLies(int c, int pails) {
            lookAt(c);
            int all = free & ~dairy.wars;
            int sets = 1 << Integer.bitCount(all);
            int best = NONE;
            int set = 0;
            for (int k = 0; k < sets; k++) {
                if (Integer.bitCount(set) <= room && milkBy(set) >= pails && isLess(set, best)) {
                    best = set;
                }
                set = setAfter(set, all);
            }
            if (best == NONE) {
                return NONE;
            }
            chosen = best;
            return Integer.bitCount(best & dairy.lies);
        }

        private boolean isLess(int set, int best) {
            if (best == NONE) {
                return true;
            }
            int fewer = Integer.bitCount(set & dairy.lies) - Integer.bitCount(best & dairy.lies);
            return fewer < 0 || fewer == 0 && Integer.bitCount(set) < Integer.bitCount(best);
        }

        int setsThatGive(int c, int milk) {
            lookAt(c);
            Arrays.fill(setsWith, 0);
            int sets = 1 << Integer.bitCount(free);
            int fitting = 0;
            int common = dairy.allNews();
            int set = 0;
            for (int k = 0; k < sets; k++) {
                if (Integer.bitCount(set) <= room && milkBy(set) == milk) {
                    fitting++;
                    common &= set;
                    countNews(set);
                }
                set = setAfter(set, free);
            }
            if (fitting > 0) {
                sure = common;
                asked = mostEven(fitting);
            }
            return fitting;
        }

        private void countNews(int set) {
            for (int n = 0; n < dairy.news; n++) {
                setsWith[n] += set >> n & 1;
            }
        }

        private int mostEven(int fitting) {
            int best = NONE;
            int least = 0;
            for (int n = 0; n < dairy.news; n++) {
                int uneven = Math.abs(2 * setsWith[n] - fitting);
                if (best == NONE || uneven < least) {
                    best = n;
                    least = uneven;
                }
            }
            return best;
        }
    }

    /** Which NEWS to tell a COW DAY by DAY. */
    private static final class Planner {
        private final Dairy dairy;
        private final Life secondDay;
        private final Life thirdDay;
        private final int[] path = new int[DAYS_PLANNED];
        final int[] planned = new int[DAYS_PLANNED];
        int plannedDays;
        private int most;

        Planner(Dairy dairy) {
            this.dairy = dairy;
            secondDay = new Life(dairy);
            thirdDay = new Life(dairy);
        }

        int seek(Life life, int c, int n) {
            plannedDays = n;
            most = NONE;
            go(life, c, 0, 0);
            return most;
        }

        // Paths come in their order, so that of like ones the first one stays.
        private void go(Life today, int c, int k, int sum) {
            if (k >= DAYS_PLANNED) {
                return;
            }
            if (k == plannedDays - 1) {
                goLast(today, c, k, sum);
                return;
            }
            Life tomorrow = k == 0 ? secondDay : thirdDay;
            for (int n = 0; n <= dairy.news; n++) {
                boolean isNone = n == dairy.news;
                if (isNone || today.whyNotTold(c, n) == 0) {
                    path[k] = isNone ? NONE : n;
                    tomorrow.copyFrom(today);
                    if (!isNone) {
                        tomorrow.hear(c, n);
                    }
                    int milk = tomorrow.milk(c);
                    tomorrow.talk();
                    tomorrow.turn();
                    go(tomorrow, c, k + 1, sum + milk);
                }
            }
        }

        // On the last DAY nothing comes of being told but the milk.
        private void goLast(Life today, int c, int k, int sum) {
            boolean givesNone = today.isDry(c) || today.isCurdled(c);
            int untold = today.sumOf(c);
            int others = today.heardByOthers(c);
            for (int n = 0; n < dairy.news; n++) {
                if (today.whyNotTold(c, n) == 0) {
                    path[k] = n;
                    boolean curdles = dairy.kind[n] == KIND_WAR;
                    int added = today.addedBy(n, others, today.knows[c]);
                    weigh(sum + (givesNone || curdles ? 0 : Math.max(0, untold + added)));
                }
            }
            path[k] = NONE;
            weigh(sum + today.milk(c));
        }

        private void weigh(int sum) {
            if (sum > most) {
                most = sum;
                System.arraycopy(path, 0, planned, 0, DAYS_PLANNED);
            }
        }
    }

    /** Draws by a seed, and what a DAY has by them. */
    private static final class Draws {
        int seed;

        private int draw(int n) {
            seed = seed * 1103515245 + 12345;
            return n > 0 ? (seed >>> 8) % n : 0;
        }

        void tellAndFind(Life life) {
            int all = life.dairy.news;
            if (all == 0) {
                return;
            }
            for (int c = 0; c < life.dairy.cows; c++) {
                if (draw(3) == 0) {
                    int n = draw(all);
                    if (life.whyNotTold(c, n) == 0) {
                        life.hear(c, n);
                    }
                }
            }
            if (draw(12) == 0) {
                int n = draw(all);
                if (life.whyNotFound(n) == 0) {
                    life.findOut(n);
                }
            }
        }
    }
}
