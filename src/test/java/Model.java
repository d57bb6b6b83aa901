import java.nio.charset.StandardCharsets;
import java.util.ArrayDeque;
import java.util.ArrayList;
import java.util.Comparator;
import java.util.List;
import java.util.NoSuchElementException;
import java.util.Set;
import java.util.function.IntPredicate;
import java.util.regex.Matcher;
import java.util.regex.Pattern;

/** The document written down slowly and plainly: nothing is kept but what was told, came and was given. */
final class Model {
    private static final int NONE = -1;
    private static final Set<String> WORDS = Set.of("farm", "cow", "news", "lie", "plain", "scandal", "war", "weather",
        "hedge", "hears", "found", "day", "or", "and", "not", "dry", "curdled", "at", "knows", "heard", "milk", "given",
        "doubts", "number");
    private static final List<String> KINDS = List.of("plain", "scandal", "war", "weather");

    record Cow(String name, int farm, int gives, int trust, int keeps) { }
    record News(String name, int kind, int worth, boolean lie) { }
    record Hedge(int f, int g, int every) { }
    record Came(int day, int cow, int news, boolean told, boolean stale) { }
    record Given(int day, int cow, int milk) { }
    record Found(int news, Set<Integer> doubting) { }
    record Token(int place, String text) { }

    static final class Fault extends Exception {
        private static final long serialVersionUID = 1;
        final int kind;
        final int place;

        Fault(int kind, int place) {
            this.kind = kind;
            this.place = place;
        }
    }

    static final class Dairy {
        final List<String> farms = new ArrayList<>();
        final List<Cow> cows = new ArrayList<>();
        final List<News> news = new ArrayList<>();
        final List<Hedge> hedges = new ArrayList<>();
        int hears = NONE;
        int lines;

        int hears() {
            return hears == NONE ? 3 : hears;
        }

        int farm(String name) {
            return farms.indexOf(name);
        }

        int cow(String name) {
            for (int c = 0; c < cows.size(); c++) {
                if (cows.get(c).name.equals(name)) {
                    return c;
                }
            }
            return NONE;
        }

        int news(String name) {
            for (int n = 0; n < news.size(); n++) {
                if (news.get(n).name.equals(name)) {
                    return n;
                }
            }
            return NONE;
        }

        boolean isTold(String name) {
            return farm(name) >= 0 || cow(name) >= 0 || news(name) >= 0;
        }
    }

    static final class State {
        int day;
        List<Came> came = new ArrayList<>();
        List<Given> given = new ArrayList<>();
        List<Found> found = new ArrayList<>();

        State copy() {
            State other = new State();
            other.day = day;
            other.came = new ArrayList<>(came);
            other.given = new ArrayList<>(given);
            other.found = new ArrayList<>(found);
            return other;
        }
    }

    interface Cond {
        boolean of(int c);
    }

    private byte[] tape = new byte[0];
    private Dairy d = new Dairy();
    private State s = new State();
    private Cond said;
    private int fault;
    private final ArrayDeque<State> undone = new ArrayDeque<>();
    private final Object[][] images = new Object[2][];
    private int told = NONE;
    private List<Integer> planned = List.of();
    private int parted = NONE;
    private List<Integer> sets;
    private int setsNews;
    private int[] written;

    // ---- the tape and the texts

    int feed(int... numbers) {
        if (tape.length + 20 > 940) {
            return NONE;
        }
        byte[] more = java.util.Arrays.copyOf(tape, tape.length + 20);
        java.nio.ByteBuffer.wrap(more, tape.length, 20).putInt(numbers[0]).putInt(numbers[1]).putInt(numbers[2])
            .putInt(numbers[3]).putInt(numbers[4]);
        tape = more;
        return tape.length;
    }

    int feed(int a, int b, int c, int e, int f) {
        return feed(new int[] {a, b, c, e, f});
    }

    boolean end(int n) {
        if (n < 0 || n > tape.length) {
            return false;
        }
        tape = java.util.Arrays.copyOf(tape, n);
        return true;
    }

    private String take() {
        String text = new String(tape, StandardCharsets.ISO_8859_1);
        tape = new byte[0];
        return text;
    }

    private static final Pattern TOKEN = Pattern.compile("[a-z0-9]+|[^ \n]", Pattern.DOTALL);

    /** TOKENS that begin within the most bytes; behind them one of no text at the end. */
    private List<Token> tokens(String text, int most) {
        List<Token> tokens = new ArrayList<>();
        Matcher matcher = TOKEN.matcher(text);
        while (matcher.find() && matcher.start() < most) {
            tokens.add(new Token(matcher.start(), matcher.group()));
        }
        tokens.add(new Token(Math.min(text.length(), most), text.length() > most ? "more" : ""));
        return tokens;
    }

    private List<Token> read;
    private int next;

    private Token here() {
        return read.get(next);
    }

    private boolean atEnd() {
        return next == read.size() - 1;
    }

    private void must(boolean so, int kind) throws Fault {
        if (!so) {
            throw new Fault(kind, here().place);
        }
    }

    private void mustEnd() throws Fault {
        must(atEnd() && here().text.isEmpty(), 1);
    }

    private boolean is(String text) {
        return !atEnd() && here().text.equals(text);
    }

    private void sign(String text) throws Fault {
        must(is(text), 1);
        next++;
    }

    private int number(int least, int most) throws Fault {
        must(!atEnd() && here().text.matches("[0-9]{1,3}"), 1);
        int value = Integer.parseInt(here().text);
        must(value >= least && value <= most, 2);
        next++;
        return value;
    }

    private String name() throws Fault {
        must(!atEnd() && here().text.matches("[a-z]{1,7}") && !WORDS.contains(here().text), 1);
        return here().text;
    }

    private int known(int number) throws Fault {
        must(number >= 0, 3);
        next++;
        return number;
    }

    private String unknown(Dairy dairy) throws Fault {
        String name = name();
        must(!dairy.isTold(name), 3);
        next++;
        return name;
    }

    int dairy() {
        read = tokens(take(), 900);
        next = 0;
        fault = 0;
        Dairy dairy = new Dairy();
        try {
            while (!atEnd()) {
                line(dairy);
                sign(";");
                dairy.lines++;
            }
            mustEnd();
        } catch (Fault f) {
            fault = f.kind;
            return -1 - f.place;
        }
        d = dairy;
        s = new State();
        said = null;
        undone.clear();
        return d.lines;
    }

    private void line(Dairy dairy) throws Fault {
        if (is("farm")) {
            must(dairy.farms.size() < 4, 4);
            next++;
            dairy.farms.add(unknown(dairy));
        } else if (is("cow")) {
            must(dairy.cows.size() < 8, 4);
            next++;
            String name = unknown(dairy);
            int farm = known(dairy.farm(name()));
            must(!dairy.farms.get(farm).equals(name), 3);
            dairy.cows.add(new Cow(name, farm, number(1, 40), number(1, 9), number(1, 30)));
        } else if (is("news")) {
            must(dairy.news.size() < 10, 4);
            next++;
            String name = unknown(dairy);
            must(!atEnd() && KINDS.contains(here().text), 1);
            int kind = KINDS.indexOf(here().text);
            next++;
            int worth = number(0, 20);
            boolean lie = is("lie");
            next += lie ? 1 : 0;
            dairy.news.add(new News(name, kind, worth, lie));
        } else if (is("hedge")) {
            next++;
            int f = known(dairy.farm(name()));
            int g = dairy.farm(name());
            must(g >= 0 && f != g, 3);
            for (Hedge h : dairy.hedges) {
                must(Set.of(h.f, h.g).equals(Set.of(f, g)) == false, 3);
            }
            next++;
            dairy.hedges.add(new Hedge(f, g, number(1, 9)));
        } else {
            must(is("hears"), 1);
            must(dairy.hears == NONE, 3);
            next++;
            dairy.hears = number(1, 5);
        }
    }

    int fault() {
        return fault;
    }

    // ---- what is so

    private boolean remembers(State t, int c, int n) {
        int keeps = d.cows.get(c).keeps;
        return t.came.stream().anyMatch(k -> k.cow == c && k.news == n && t.day - k.day <= keeps);
    }

    private boolean heardOn(State t, int c, int n, int day) {
        return t.came.stream().anyMatch(k -> k.cow == c && k.news == n && k.told && k.day == day);
    }

    private int doubts(State t, int c) {
        return (int) t.found.stream().filter(f -> f.doubting.contains(c)).count();
    }

    private boolean dry(State t, int c) {
        return doubts(t, c) >= d.cows.get(c).trust;
    }

    private boolean found(State t, int n) {
        return t.found.stream().anyMatch(f -> f.news == n);
    }

    private boolean curdled(State t, int c) {
        return t.came.stream().anyMatch(k -> k.cow == c && k.told && d.news.get(k.news).kind == 2 && t.day - k.day <= 6);
    }

    private int gives(State t, int c) {
        if (dry(t, c) || curdled(t, c)) {
            return 0;
        }
        int sum = d.cows.get(c).gives;
        for (Came k : t.came) {
            News n = d.news.get(k.news);
            if (k.cow == c && k.told && k.day == t.day && n.kind < 2) {
                int more = n.worth + (n.lie && !found(t, k.news) ? 5 : 0);
                boolean both = t.came.stream().anyMatch(o -> o.cow != c && o.told && o.day == t.day && o.news == k.news
                    && d.cows.get(o.cow).farm == d.cows.get(c).farm);
                more = n.kind == 1 && both ? 2 * more : more;
                sum += k.stale ? more / 2 : more;
            }
            if (k.cow == c && k.told && k.day == t.day - 1 && n.kind == 3) {
                sum += n.lie ? -n.worth : n.worth;
            }
        }
        return Math.max(0, sum);
    }

    private static int bits(int size, IntPredicate has) {
        int bits = 0;
        for (int k = 0; k < size; k++) {
            bits += has.test(k) ? 1 << k : 0;
        }
        return bits;
    }

    private int cowBits(IntPredicate has) {
        return bits(d.cows.size(), has);
    }

    private int newsBits(IntPredicate has) {
        return bits(d.news.size(), has);
    }

    private int given(State t, IntPredicate cow, IntPredicate day) {
        return t.given.stream().filter(g -> cow.test(g.cow) && day.test(g.day)).mapToInt(Given::milk).sum();
    }

    private boolean isCow(int c) {
        return c >= 0 && c < d.cows.size();
    }

    private boolean isNews(int n) {
        return n >= 0 && n < d.news.size();
    }

    private boolean isFarm(int f) {
        return f >= 0 && f < d.farms.size();
    }

    int cow(int c, int what) {
        if (!isCow(c) || what < 0 || what > 7) {
            throw new NoSuchElementException();
        }
        return new int[] {d.cows.get(c).farm, dry(s, c) ? 1 : 0, curdled(s, c) ? 1 : 0, doubts(s, c),
            newsBits(n -> heardOn(s, c, n, s.day)), newsBits(n -> remembers(s, c, n)), gives(s, c),
            given(s, k -> k == c, k -> true)}[what];
    }

    int news(int n, int what) {
        if (!isNews(n) || what < 0 || what > 5) {
            return NONE;
        }
        News x = d.news.get(n);
        return new int[] {x.kind, x.worth, x.lie ? 1 : 0, found(s, n) ? 1 : 0, cowBits(c -> heardOn(s, c, n, s.day)),
            cowBits(c -> remembers(s, c, n))}[what];
    }

    int farm(int f, int what) {
        if (!isFarm(f) || what < 0 || what > 3) {
            throw new NoSuchElementException();
        }
        IntPredicate here = c -> d.cows.get(c).farm == f;
        int today = 0;
        for (int c = 0; c < d.cows.size(); c++) {
            today += here.test(c) ? gives(s, c) : 0;
        }
        return new int[] {cowBits(here), given(s, here, k -> true), today,
            bits(d.hedges.size(), h -> d.hedges.get(h).f == f || d.hedges.get(h).g == f)}[what];
    }

    private boolean talks(State t, int h) {
        return (t.day + 1) % d.hedges.get(h).every == 0;
    }

    int now(int what) {
        if (what < 0 || what > 5) {
            return NONE;
        }
        return new int[] {s.day, cowBits(c -> dry(s, c)), newsBits(n -> found(s, n)), given(s, c -> true, k -> true),
            (int) s.came.stream().filter(Came::told).count(), bits(d.hedges.size(), h -> talks(s, h))}[what];
    }

    // ---- acts

    private void keep() {
        undone.push(s.copy());
        if (undone.size() > 8) {
            undone.removeLast();
        }
    }

    private int whyTold(State t, int c, int n) {
        if (dry(t, c)) {
            return 1;
        }
        if (heardOn(t, c, n, t.day)) {
            return 2;
        }
        return Integer.bitCount(newsBits(k -> heardOn(t, c, k, t.day))) == d.hears() ? 3 : 0;
    }

    private void hear(State t, int c, int n) {
        t.came.add(new Came(t.day, c, n, true, remembers(t, c, n)));
    }

    private int whyFound(State t, int n) {
        return !d.news.get(n).lie ? 1 : found(t, n) ? 2 : 0;
    }

    private void findOut(State t, int n) {
        Set<Integer> doubting = new java.util.HashSet<>();
        for (int c = 0; c < d.cows.size(); c++) {
            if (remembers(t, c, n) && !dry(t, c)) {
                doubting.add(c);
            }
        }
        t.found.add(new Found(n, doubting));
    }

    private void goDay(State t) {
        for (int c = 0; c < d.cows.size(); c++) {
            t.given.add(new Given(t.day, c, gives(t, c)));
        }
        State ahead = t.copy();
        for (int h = 0; h < d.hedges.size(); h++) {
            if (talks(t, h)) {
                over(ahead, t, d.hedges.get(h).f, d.hedges.get(h).g);
                over(ahead, t, d.hedges.get(h).g, d.hedges.get(h).f);
            }
        }
        t.day++;
    }

    private void over(State ahead, State t, int from, int to) {
        for (int n = 0; n < d.news.size(); n++) {
            for (int c = 0; c < d.cows.size(); c++) {
                if (d.cows.get(c).farm == from && remembers(ahead, c, n)) {
                    for (int k = 0; k < d.cows.size(); k++) {
                        if (d.cows.get(k).farm == to) {
                            t.came.add(new Came(t.day, k, n, false, false));
                        }
                    }
                    break;
                }
            }
        }
    }

    private int go(State t, int n) {
        int gone = 0;
        for (; gone < n && t.day < 400; gone++) {
            goDay(t);
        }
        return gone;
    }

    int tell(int c, int n) {
        int why = why(c, n);
        if (why == 0) {
            keep();
            hear(s, c, n);
        }
        return why;
    }

    int find(int n) {
        int why = isNews(n) ? whyFound(s, n) : NONE;
        if (why == 0) {
            keep();
            findOut(s, n);
        }
        return why;
    }

    int days(int n) {
        if (n < 1 || n > 60) {
            return NONE;
        }
        if (s.day < 400) {
            keep();
        }
        return go(s, n);
    }

    int undo() {
        if (undone.isEmpty()) {
            return NONE;
        }
        s = undone.pop();
        return undone.size();
    }

    int why(int c, int n) {
        return isCow(c) && isNews(n) ? whyTold(s, c, n) : NONE;
    }

    // ---- advice

    private List<Integer> setsFor(int c) {
        List<Integer> all = new ArrayList<>();
        int heard = newsBits(n -> heardOn(s, c, n, s.day));
        for (int set = 0; set < 1 << d.news.size(); set++) {
            if ((set & heard) == 0 && Integer.bitCount(set) + Integer.bitCount(heard) <= d.hears()) {
                all.add(set);
            }
        }
        return all;
    }

    private int givesBy(int c, int set) {
        State t = s.copy();
        for (int n = 0; n < d.news.size(); n++) {
            if ((set >> n & 1) == 1) {
                hear(t, c, n);
            }
        }
        return gives(t, c);
    }

    private int lies(int set) {
        return Integer.bitCount(set & newsBits(n -> d.news.get(n).lie));
    }

    private boolean war(int set) {
        return (set & newsBits(n -> d.news.get(n).kind == 2)) != 0;
    }

    private List<Integer> peaceful(int c) {
        List<Integer> all = setsFor(c);
        all.removeIf(this::war);
        return all;
    }

    int best(int c) {
        if (!isCow(c) || dry(s, c)) {
            return NONE;
        }
        told = peaceful(c).stream().min(Comparator.<Integer>comparingInt(k -> -givesBy(c, k)).thenComparing(Integer::bitCount)
            .thenComparing(k -> k)).get();
        return givesBy(c, told);
    }

    int least(int c, int p) {
        if (!isCow(c) || dry(s, c) || p < 0 || p > 999) {
            return NONE;
        }
        var set = peaceful(c).stream().filter(k -> givesBy(c, k) >= p)
            .min(Comparator.comparingInt(this::lies).thenComparing(Integer::bitCount).thenComparing(k -> k));
        if (set.isEmpty()) {
            return NONE;
        }
        told = set.get();
        return lies(told);
    }

    int told() {
        return told;
    }

    int honest(int c) {
        if (!isCow(c) || dry(s, c)) {
            return NONE;
        }
        return peaceful(c).stream().filter(k -> lies(k) == 0).mapToInt(k -> givesBy(c, k)).max().getAsInt();
    }

    int plan(int c, int n) {
        if (!isCow(c) || n < 1 || n > 3 || s.day + n > 400) {
            return NONE;
        }
        int[] most = {NONE};
        plan(s, c, n, new ArrayList<>(), most);
        return most[0];
    }

    private void plan(State t, int c, int n, List<Integer> path, int[] most) {
        if (path.size() == n) {
            int sum = given(t, k -> k == c, k -> k >= s.day);
            if (sum > most[0]) {
                most[0] = sum;
                planned = new ArrayList<>(path);
            }
            return;
        }
        for (int k = 0; k <= d.news.size(); k++) {
            boolean none = k == d.news.size();
            if (none || whyTold(t, c, k) == 0) {
                State then = t.copy();
                if (!none) {
                    hear(then, c, k);
                }
                goDay(then);
                path.add(none ? NONE : k);
                plan(then, c, n, path, most);
                path.remove(path.size() - 1);
            }
        }
    }

    int planAt(int k) {
        return k >= 0 && k < planned.size() ? planned.get(k) : NONE;
    }

    int allKnow(int n) {
        if (!isNews(n) || d.cows.isEmpty()) {
            return NONE;
        }
        State t = s.copy();
        for (int k = 0; k < 200 && t.day < 400; k++) {
            goDay(t);
            if (cowBits(c -> remembers(t, c, n)) == cowBits(c -> true)) {
                return t.day - 1;
            }
            t.came.removeIf(x -> t.day - x.day > 31);
            t.given.clear();
        }
        return NONE;
    }

    private boolean linked(int f, int g, int gone, int seen) {
        if (f == g) {
            return true;
        }
        for (int h = 0; h < d.hedges.size(); h++) {
            Hedge x = d.hedges.get(h);
            if ((gone >> h & 1) == 0 && (x.f == f || x.g == f)) {
                int to = x.f == f ? x.g : x.f;
                if ((seen >> to & 1) == 0 && linked(to, g, gone, seen | 1 << to)) {
                    return true;
                }
            }
        }
        return false;
    }

    int part(int f, int g) {
        if (!isFarm(f) || !isFarm(g) || f == g) {
            return NONE;
        }
        List<Integer> all = new ArrayList<>();
        for (int gone = 0; gone < 1 << d.hedges.size(); gone++) {
            if (!linked(f, g, gone, 1 << f)) {
                all.add(gone);
            }
        }
        parted = all.stream().min(Comparator.comparingInt(Integer::bitCount).thenComparing(k -> k)).get();
        return Integer.bitCount(parted);
    }

    int parted() {
        return parted;
    }

    int tasted(int c) {
        byte[] bytes = tape;
        tape = new byte[0];
        if (bytes.length != 1 || !isCow(c) || dry(s, c)) {
            return NONE;
        }
        List<Integer> all = setsFor(c);
        all.removeIf(k -> givesBy(c, k) != Byte.toUnsignedInt(bytes[0]));
        if (!all.isEmpty()) {
            sets = all;
            setsNews = d.news.size();
        }
        return all.size();
    }

    int surely() {
        return sets == null ? NONE : bits(setsNews, n -> sets.stream().allMatch(k -> (k >> n & 1) == 1));
    }

    int ask() {
        int ask = NONE;
        long best = Long.MAX_VALUE;
        for (int n = 0; sets != null && n < setsNews; n++) {
            int bit = n;
            long with = sets.stream().filter(k -> (k >> bit & 1) == 1).count();
            long uneven = Math.abs(with - (sets.size() - with));
            if (uneven < best) {
                best = uneven;
                ask = n;
            }
        }
        return ask;
    }

    int dries(int n) {
        if (!isNews(n) || whyFound(s, n) != 0) {
            return NONE;
        }
        State t = s.copy();
        findOut(t, n);
        return cowBits(c -> dry(t, c) && !dry(s, c));
    }

    // ---- rows of DAYS

    int week(int f) {
        byte[] bytes = tape;
        tape = new byte[0];
        if (!isFarm(f) || bytes.length < 1 || bytes.length > 7) {
            return NONE;
        }
        for (int day = s.day - 30; day < s.day; day++) {
            boolean fits = true;
            for (int k = 0; k < bytes.length; k++) {
                fits &= pails(f, day + k) == Byte.toUnsignedInt(bytes[k]);
            }
            if (fits) {
                return day;
            }
        }
        return NONE;
    }

    int pails(int f, int day) {
        if (!isFarm(f) || day < 0 || day >= s.day || day + 30 < s.day) {
            return NONE;
        }
        return given(s, c -> d.cows.get(c).farm == f, k -> k == day);
    }

    int ahead(int n) {
        if (n < 1 || n > 60) {
            return NONE;
        }
        State t = s.copy();
        go(t, n);
        return given(t, c -> true, k -> k >= s.day);
    }

    private int draw(int[] x, int n) {
        x[0] = (int) (x[0] * 1103515245L + 12345L);
        return (x[0] >>> 8) % n;
    }

    private int draws(State t, int n, int seed) {
        int[] x = {seed};
        int gone = 0;
        for (; gone < n && t.day < 400; gone++) {
            for (int c = 0; c < d.cows.size(); c++) {
                if (draw(x, 3) == 0) {
                    int k = draw(x, d.news.size());
                    if (whyTold(t, c, k) == 0) {
                        hear(t, c, k);
                    }
                }
            }
            if (draw(x, 12) == 0) {
                int k = draw(x, d.news.size());
                if (whyFound(t, k) == 0) {
                    findOut(t, k);
                }
            }
            goDay(t);
        }
        return gone;
    }

    int drawn(int n, int seed) {
        if (n < 1 || n > 60 || d.news.isEmpty()) {
            return NONE;
        }
        if (s.day < 400) {
            keep();
        }
        return draws(s, n, seed);
    }

    int odds(int c, int n, int seed) {
        if (!isCow(c) || n < 1 || n > 30 || d.news.isEmpty()) {
            return NONE;
        }
        int dried = 0;
        for (int k = 0; k < n; k++) {
            State t = s.copy();
            draws(t, 20, seed + k);
            dried += dry(t, c) ? 1 : 0;
        }
        return dried;
    }

    // ---- books and sentences

    int book(int lives) {
        if (lives < 0 || lives > 1) {
            return -1000;
        }
        read = tokens(take(), 400);
        next = 0;
        fault = 0;
        List<int[]> lines = new ArrayList<>();
        try {
            while (!atEnd()) {
                lines.add(bookLine(lines.size()));
                sign(";");
            }
            mustEnd();
        } catch (Fault f) {
            fault = f.kind;
            return -2 - f.place;
        }
        State t = s.copy();
        int right = 0;
        int why = 0;
        for (; right < lines.size(); right++) {
            why = live(t, lines.get(right));
            if (why != 0) {
                break;
            }
        }
        written = new int[] {why, right, t.day, cowBits(c -> dry(t, c))};
        if (lives == 1 && right > 0) {
            keep();
            s = t;
        }
        return why == 0 ? NONE : right;
    }

    private int[] bookLine(int before) throws Fault {
        boolean act = is("found") || is("day");
        if (!act) {
            must(d.cow(name()) >= 0, 3);
        }
        must(before < 40, 4);
        if (is("day")) {
            next++;
            return new int[] {0, number(1, 60)};
        }
        if (is("found")) {
            next++;
            return new int[] {1, known(d.news(name()))};
        }
        int c = known(d.cow(name()));
        sign("hears");
        return new int[] {2, known(d.news(name())), c};
    }

    private int live(State t, int[] line) {
        if (line[0] == 0) {
            if (line[1] > 400 - t.day) {
                return 21;
            }
            go(t, line[1]);
            return 0;
        }
        int why = line[0] == 1 ? whyFound(t, line[1]) : whyTold(t, line[2], line[1]);
        if (why != 0) {
            return line[0] == 1 ? 10 + why : why;
        }
        if (line[0] == 1) {
            findOut(t, line[1]);
        } else {
            hear(t, line[2], line[1]);
        }
        return 0;
    }

    int written(int what) {
        return written == null || what < 0 || what > 3 ? NONE : written[what];
    }

    private int ones;

    int sentence() {
        read = tokens(take(), 200);
        next = 0;
        fault = 0;
        ones = 0;
        try {
            Cond cond = cond(1);
            mustEnd();
            said = cond;
            return ones;
        } catch (Fault f) {
            fault = f.kind;
            return -1 - f.place;
        }
    }

    private Cond cond(int depth) throws Fault {
        Cond left = all(depth);
        if (!is("or")) {
            return left;
        }
        List<Cond> parts = new ArrayList<>(List.of(left));
        while (is("or")) {
            next++;
            parts.add(all(depth));
        }
        return c -> parts.stream().anyMatch(p -> p.of(c));
    }

    private Cond all(int depth) throws Fault {
        List<Cond> parts = new ArrayList<>(List.of(one(depth)));
        while (is("and")) {
            next++;
            parts.add(one(depth));
        }
        return c -> parts.stream().allMatch(p -> p.of(c));
    }

    private Cond one(int depth) throws Fault {
        String word = atEnd() ? "" : here().text;
        must(Set.of("not", "(", "dry", "curdled", "at", "knows", "heard", "milk", "given", "doubts", "number").contains(word), 1);
        must(ones < 20 && depth < 9, 4);
        ones++;
        next++;
        switch (word) {
            case "not": {
                Cond inner = one(depth + 1);
                return c -> !inner.of(c);
            }
            case "(": {
                Cond inner = cond(depth + 1);
                sign(")");
                return inner;
            }
            case "dry": return c -> dry(s, c);
            case "curdled": return c -> curdled(s, c);
            case "at": {
                int f = known(d.farm(name()));
                return c -> d.cows.get(c).farm == f;
            }
            case "knows": {
                int n = known(d.news(name()));
                return c -> remembers(s, c, n);
            }
            case "heard": {
                int n = known(d.news(name()));
                return c -> heardOn(s, c, n, s.day);
            }
            default: return compared(word);
        }
    }

    private Cond compared(String word) throws Fault {
        must(is("<") || is("=") || is(">"), 1);
        String sign = here().text;
        next++;
        int number = number(0, 999);
        int want = sign.equals("<") ? -1 : sign.equals("=") ? 0 : 1;
        int what = word.equals("milk") ? 6 : word.equals("given") ? 7 : 3;
        return c -> Integer.signum(Integer.compare(word.equals("number") ? c : cow(c, what), number)) == want;
    }

    int said(int k) {
        if (said == null) {
            return NONE;
        }
        List<Integer> all = new ArrayList<>();
        for (int c = 0; c < d.cows.size(); c++) {
            if (said.of(c)) {
                all.add(c);
            }
        }
        return k == NONE ? all.size() : k >= 0 && k < all.size() ? all.get(k) : NONE;
    }

    boolean image(int k) {
        if (k < 0 || k > 1) {
            return false;
        }
        images[k] = new Object[] {d, s.copy(), said};
        return true;
    }

    boolean restore(int k) {
        if (k < 0 || k > 1 || images[k] == null) {
            return false;
        }
        d = (Dairy) images[k][0];
        s = ((State) images[k][1]).copy();
        said = (Cond) images[k][2];
        undone.clear();
        return true;
    }

    int count(int what) {
        if (what < 0 || what > 5) {
            return NONE;
        }
        return new int[] {d.farms.size(), d.cows.size(), d.news.size(), d.hedges.size(), d.hears(), tape.length}[what];
    }
}
