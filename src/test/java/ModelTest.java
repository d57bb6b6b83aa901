import java.nio.charset.StandardCharsets;
import java.util.ArrayList;
import java.util.List;
import java.util.Random;

/** Random runs of calls: the class and the plain model must answer alike. */
public final class ModelTest {
    // The last step makes some more; together they stay below the 512 that an object is promised for.
    private static final int CALLS = 400;
    private static final String[] WORDS = {"farm", "cow", "news", "lie", "plain", "scandal", "war", "weather", "hedge",
        "hears", "found", "day", "or", "and", "not", "dry", "curdled", "at", "knows", "heard", "milk", "given", "doubts",
        "number", ";", "<", "=", ">", "(", ")", "0", "1", "7", "41", "999", "1000", "x", "fa", "ca", "na", "A", ".",
        "abcdefgh", "a1"};

    private final Random random;
    private final NewsCows cows = new NewsCows();
    private final Model model = new Model();
    private final List<String> calls = new ArrayList<>();
    private boolean isWrong;
    private int farms;
    private int herd;
    private int stories;

    private ModelTest(long seed) {
        random = new Random(seed);
    }

    public static void main(String[] args) {
        int runs = args.length > 1 ? Integer.parseInt(args[1]) : 150;
        long from = args.length > 2 ? Long.parseLong(args[2]) : 1;
        long made = 0;
        for (long seed = from; seed < from + runs; seed++) {
            ModelTest test = new ModelTest(seed);
            test.run();
            made += test.calls.size();
            if (test.isWrong) {
                Run.fail("run of seed " + seed + ":\n  " + String.join("\n  ", test.calls));
                break;
            }
        }
        System.out.println(made + " calls of " + runs + " runs compared");
        Run.finish();
    }

    private void run() {
        boolean isBusy = random.nextInt(3) == 0;
        newDairy();
        if (random.nextInt(5) == 0) {
            toTheLastDays();
        }
        while (calls.size() < CALLS && !isWrong) {
            if (isBusy && random.nextInt(3) > 0) {
                call("tell", cow(), news());
            } else {
                step();
            }
        }
    }

    private void toTheLastDays() {
        for (int k = 0; k < 6; k++) {
            call("days", 60);
        }
        call("days", 10 + upTo(29));
    }

    private void call(String name, int... args) {
        long got = Run.answer(cows, name, args);
        long want = Run.answer(model, name, args);
        calls.add(Run.written(name, args) + " -> " + Run.shown(got));
        if (got != want) {
            isWrong = true;
            calls.add("  due is " + Run.shown(want));
        }
    }

    private int upTo(int n) {
        return random.nextInt(n + 1);
    }

    /** One of 1 to n; the edges come often. */
    private int from1To(int n) {
        int which = random.nextInt(6);
        return which == 0 ? 1 : which == 1 ? n : 1 + random.nextInt(which == 2 ? n : Math.min(n, 4));
    }

    private int odd(int usual) {
        return random.nextInt(40) == 0 ? random.nextInt(9) - 3 : usual;
    }

    private int cow() {
        return odd(random.nextInt(Math.max(1, herd)));
    }

    private int news() {
        return odd(random.nextInt(Math.max(1, stories)));
    }

    private int farm() {
        return odd(random.nextInt(Math.max(1, farms)));
    }

    private void tape(byte[] bytes) {
        if (random.nextInt(30) > 0) {
            call("end", 0);
        }
        int before = cows.count(5);
        for (int from = 0; from < bytes.length; from += 20) {
            int[] numbers = new int[5];
            for (int k = 0; k < 20 && from + k < bytes.length; k++) {
                numbers[k / 4] |= (bytes[from + k] & 255) << 24 - k % 4 * 8;
            }
            call("feed", numbers);
        }
        call("end", before + bytes.length);
    }

    private void text(String text) {
        calls.add("\"" + text + "\"");
        tape(text.getBytes(StandardCharsets.ISO_8859_1));
    }

    private String spoiled(String text, int chance) {
        if (random.nextInt(chance) > 0) {
            return text;
        }
        int at = upTo(text.length());
        switch (random.nextInt(5)) {
            case 0: return text.substring(0, at);
            case 1: return text.substring(0, at) + WORDS[random.nextInt(WORDS.length)] + text.substring(at);
            case 2: return text.substring(0, at) + " " + WORDS[random.nextInt(WORDS.length)] + " " + text.substring(at);
            case 3: return at == 0 ? text : text.substring(0, at - 1) + text.substring(at);
            default: return text.substring(0, at) + " ".repeat(random.nextInt(300)) + text.substring(at);
        }
    }

    private static String name(char sort, int k) {
        return "" + sort + (char) ('a' + k);
    }

    private void newDairy() {
        StringBuilder text = new StringBuilder();
        farms = 1 + upTo(3);
        herd = random.nextInt(12) == 0 ? 0 : 1 + upTo(7);
        stories = random.nextInt(12) == 0 ? 0 : 1 + upTo(random.nextBoolean() ? 4 : 9);
        for (int f = 0; f < farms; f++) {
            text.append("farm ").append(name('f', f)).append(';');
        }
        for (int c = 0; c < herd; c++) {
            text.append("cow ").append(name('c', c)).append(' ').append(name('f', random.nextInt(farms))).append(' ')
                .append(from1To(40)).append(' ').append(from1To(9)).append(' ').append(from1To(30)).append(';');
        }
        String[] kinds = {"plain", "scandal", "scandal", "plain", "weather", "war"};
        for (int n = 0; n < stories; n++) {
            text.append("news ").append(name('n', n)).append(' ').append(kinds[random.nextInt(kinds.length)]).append(' ')
                .append(upTo(random.nextBoolean() ? 20 : 3)).append(random.nextInt(3) == 0 ? " lie;" : ";");
        }
        for (int f = 0; f < farms; f++) {
            for (int g = 0; g < f; g++) {
                if (random.nextInt(3) > 0) {
                    boolean isTurned = random.nextBoolean();
                    text.append("hedge ").append(name('f', isTurned ? g : f)).append(' ')
                        .append(name('f', isTurned ? f : g)).append(' ').append(from1To(9)).append(';');
                }
            }
        }
        if (random.nextInt(4) > 0) {
            text.append("hears ").append(from1To(5)).append(';');
        }
        text(spoiled(text.toString(), 8));
        call("dairy");
        call("fault");
        farms = cows.count(0);
        herd = cows.count(1);
        stories = cows.count(2);
    }

    private String bookText() {
        StringBuilder text = new StringBuilder();
        for (int k = random.nextInt(random.nextInt(6) == 0 ? 44 : 9); k > 0; k--) {
            int what = random.nextInt(6);
            if (what == 0) {
                text.append("found ").append(name('n', random.nextInt(Math.max(1, stories))));
            } else if (what < 3) {
                text.append("day ").append(1 + upTo(random.nextInt(9) == 0 ? 60 : 2));
            } else {
                text.append(name('c', random.nextInt(Math.max(1, herd)))).append(" hears ")
                    .append(name('n', random.nextInt(Math.max(1, stories))));
            }
            text.append(random.nextBoolean() ? ";" : " ;\n");
        }
        return spoiled(text.toString(), 4);
    }

    private String cond(int depth) {
        StringBuilder text = new StringBuilder(one(depth));
        while (random.nextInt(3) == 0) {
            text.append(random.nextBoolean() ? " or " : " and ").append(one(depth));
        }
        return text.toString();
    }

    private String one(int depth) {
        int what = random.nextInt(depth > 9 ? 9 : 14);
        String sign = new String[] {"<", " = ", ">"}[random.nextInt(3)];
        switch (what) {
            case 0: return "dry";
            case 1: return "curdled";
            case 2: return "at " + name('f', random.nextInt(Math.max(1, farms)));
            case 3: return "knows " + name('n', random.nextInt(Math.max(1, stories)));
            case 4: return "heard " + name('n', random.nextInt(Math.max(1, stories)));
            case 5: return "milk" + sign + upTo(40);
            case 6: return "given" + sign + upTo(999);
            case 7: return "doubts" + sign + upTo(3);
            case 8: return "number" + sign + upTo(7);
            case 9:
            case 10: return "not " + one(depth + 1);
            default: return "(" + cond(depth + 1) + ")";
        }
    }

    private void taste() {
        int c = cow();
        int milk = herd > 0 ? (int) Math.max(0, Run.answer(cows, "cow", Math.min(Math.max(0, c), herd - 1), 6)) : 3;
        byte[] bytes = new byte[random.nextInt(9) == 0 ? upTo(2) : 1];
        for (int k = 0; k < bytes.length; k++) {
            bytes[k] = (byte) (random.nextInt(8) == 0 ? 0 : milk + (random.nextBoolean() ? 0 : upTo(20)));
        }
        tape(bytes);
        call("tasted", c);
        call("surely");
        call("ask");
    }

    private void week() {
        int f = farm();
        int from = cows.now(0) - 1 - upTo(31);
        byte[] bytes = new byte[random.nextInt(9) == 0 ? upTo(9) : 1 + upTo(2)];
        for (int k = 0; k < bytes.length; k++) {
            bytes[k] = (byte) cows.pails(Math.max(0, f), from + k);
        }
        tape(bytes);
        call("week", f);
    }

    private void look() {
        for (int what = 0; what < 6; what++) {
            call("now", what);
        }
        for (int what = 0; what < 8; what++) {
            call("cow", cow(), odd(what));
        }
        for (int what = 0; what < 6; what++) {
            call("news", news(), odd(what));
        }
        for (int what = 0; what < 4; what++) {
            call("farm", farm(), odd(what));
        }
        call("count", random.nextInt(8) - 1);
    }

    private void step() {
        switch (random.nextInt(30)) {
            case 0:
            case 1:
            case 2:
            case 3:
            case 4: call("tell", cow(), news()); break;
            case 5: call("find", news()); break;
            case 6:
            case 7: call("days", odd(1 + upTo(random.nextInt(9) == 0 ? 60 : 2))); break;
            case 8: call("undo"); break;
            case 9: call("why", cow(), news()); break;
            case 10: call("best", cow()); call("told"); break;
            case 11: call("least", cow(), random.nextInt(20) == 0 ? 1000 : upTo(60)); call("told"); break;
            case 12: call("honest", cow()); call("told"); break;
            case 13: plan(); break;
            case 14: call("allKnow", news()); break;
            case 15: call("part", farm(), farm()); call("parted"); break;
            case 16: taste(); break;
            case 17: call("dries", news()); break;
            case 18: week(); break;
            case 19: call("pails", farm(), cows.now(0) - upTo(32)); break;
            case 20: call("ahead", odd(1 + upTo(random.nextInt(9) == 0 ? 60 : 9))); break;
            case 21: call("drawn", odd(1 + upTo(random.nextInt(6) == 0 ? 60 : 4)), random.nextInt()); break;
            case 22: call("odds", cow(), odd(1 + upTo(2)), random.nextInt()); break;
            case 23: text(bookText()); call("book", odd(random.nextInt(2))); call("fault"); written(); break;
            case 24: text(spoiled(cond(1), 3)); call("sentence"); call("fault"); break;
            case 25:
            case 26: call("said", random.nextInt(5) - 1); break;
            case 27: images(); break;
            case 28: look(); break;
            default: if (random.nextInt(12) == 0) { newDairy(); } else { look(); }
        }
    }

    private void plan() {
        call("plan", cow(), odd(1 + upTo(stories > 5 ? 1 : 2)));
        for (int k = -1; k < 4; k++) {
            call("planAt", k);
        }
    }

    private void written() {
        for (int what = -1; what < 5; what++) {
            call("written", what);
        }
    }

    private void images() {
        call(random.nextBoolean() ? "image" : "restore", odd(random.nextInt(2)));
        farms = cows.count(0);
        herd = cows.count(1);
        stories = cows.count(2);
    }
}
