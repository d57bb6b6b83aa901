import java.io.IOException;
import java.lang.management.ManagementFactory;
import java.lang.reflect.Field;
import java.lang.reflect.Method;
import java.lang.reflect.Modifier;
import java.nio.file.Files;
import java.nio.file.Path;
import java.util.Arrays;
import java.util.List;
import java.util.Random;
import java.util.TreeSet;
import java.util.regex.Matcher;
import java.util.regex.Pattern;

/** The rules of LANGUAGE.md that can be seen from outside; the class's source is the first argument. */
public final class LanguageTest {
    private static final String FACE = "ahead allKnow ask best book count cow dairy days drawn dries end farm fault feed find "
        + "honest image least news now odds pails part parted plan planAt restore said sentence surely tasted tell told undo "
        + "week why written";
    private static final int[] WILD = {Integer.MIN_VALUE, Integer.MIN_VALUE + 1, -1000, -401, -61, -31, -2, -1, 0, 1, 2, 3, 4, 5, 6,
        7, 8, 9, 10, 11, 29, 30, 31, 32, 33, 59, 60, 61, 63, 64, 399, 400, 401, 940, 999, 1000, Integer.MAX_VALUE - 1, Integer.MAX_VALUE};

    public static void main(String[] args) throws IOException {
        face();
        classes();
        if (args.length > 0) {
            source(Files.readString(Path.of(args[0])));
        }
        wildCalls();
        makesNothing();
        Run.finish();
    }

    private static void must(boolean so, String text) {
        if (!so) {
            Run.fail(text);
        }
    }

    private static void face() {
        TreeSet<String> open = new TreeSet<>();
        for (Method method : NewsCows.class.getDeclaredMethods()) {
            if (!Modifier.isPrivate(method.getModifiers())) {
                open.add(method.getName());
            }
        }
        must(String.join(" ", open).equals(FACE), "the methods that others see are " + open);
        must(Modifier.isFinal(NewsCows.class.getModifiers()) && Modifier.isPublic(NewsCows.class.getModifiers()), "not public and final");
        for (Field field : NewsCows.class.getDeclaredFields()) {
            must(field.getName().equals("NONE") || Modifier.isPrivate(field.getModifiers()), "others see " + field);
        }
        must(NewsCows.NONE == -1, "NONE is " + NewsCows.NONE);
    }

    private static void classes() {
        List<String> face = List.of(FACE.split(" "));
        Class<?>[] inner = NewsCows.class.getDeclaredClasses();
        must(inner.length < 12, "too many classes: " + inner.length);
        for (Class<?> type : inner) {
            must(Modifier.isStatic(type.getModifiers()), type + " is not static");
            long fields = Arrays.stream(type.getDeclaredFields()).filter(f -> !Modifier.isStatic(f.getModifiers())).count();
            must(fields <= 20, type + " has too many fields: " + fields);
            for (Method method : type.getDeclaredMethods()) {
                must(!face.contains(method.getName()), method + " bears the name of one of the face");
                must(method.getParameterCount() <= 7, method + " takes too many");
            }
            for (Field field : type.getDeclaredFields()) {
                must(!Modifier.isStatic(field.getModifiers()) || Modifier.isFinal(field.getModifiers()), field + " is static, not final");
            }
        }
    }

    private static void source(String text) {
        String code = text.replaceAll("/\\*(?s:.)*?\\*/|//[^\n]*", "").replaceAll("\"[^\"\n]*\"|'[^'\n]*'", "\"\"");
        for (String word : List.of("->", "::", "\\btry\\b", "\\bcatch\\b", "\\bfinally\\b", "\\bsynchronized\\b", "\\bassert\\b",
            "\\bstatic\\s*\\{", "Exact\\b", "\\bdouble\\b", "\\bfloat\\b", "\\bpackage\\b", "\"\"\\s*\\+", "\\+\\s*\"\"", "\\bprotected\\b",
            "\\bSystem\\.(?!arraycopy)", "\\bArrays\\.(?!copyOf|copyOfRange|fill)", "\\bObject\\b", "\\brecord\\b", "\\bhashCode\\b")) {
            must(!Pattern.compile(word).matcher(code).find(), "the source has " + word);
        }
        Matcher imports = Pattern.compile("import ([^;]*);").matcher(code);
        while (imports.find()) {
            must(List.of("java.util.Arrays", "java.util.NoSuchElementException").contains(imports.group(1)), imports.group());
        }
        Matcher thrown = Pattern.compile("throw ([^;]*);").matcher(code);
        while (thrown.find()) {
            must(thrown.group(1).equals("new NoSuchElementException()"), thrown.group());
        }
        int line = 0;
        int begun = 0;
        for (String row : text.split("\n")) {
            line++;
            must(row.chars().allMatch(c -> c >= 32 && c < 127), "line " + line + " has another sign than 32 to 126");
            if (row.matches("( {4}| {8})[a-z].*\\) (throws \\w+ )?\\{")) {
                begun = line;
            }
            if (row.matches("( {4}| {8})\\}")) {
                must(begun == 0 || line - begun <= 60, "the method at line " + begun + " is long");
                begun = 0;
            }
        }
    }

    private static int wild(Random random) {
        return random.nextInt(4) == 0 ? random.nextInt() : WILD[random.nextInt(WILD.length)];
    }

    private static void wildCalls() {
        String dairy = "farm f;farm g;cow a f 10 2 3;cow b g 5 2 3;cow c g 40 9 30;news p plain 6;news l plain 2 lie;news w war 1;"
            + "news r weather 20 lie;news s scandal 9 lie;hedge f g 2;";
        Method[] methods = NewsCows.class.getDeclaredMethods();
        Arrays.sort(methods, (a, b) -> a.getName().compareTo(b.getName()));
        for (int seed = 0; seed < 120; seed++) {
            Random random = new Random(seed);
            Run run = new Run("wild calls of seed " + seed);
            if (seed % 4 > 0) {
                run.tape(dairy);
                run.cows.dairy();
            }
            for (int k = 0; k < 480; k++) {
                Method method = methods[random.nextInt(methods.length)];
                if (Modifier.isPublic(method.getModifiers())) {
                    wildCall(run, method, random, seed % 2 == 0);
                }
            }
        }
    }

    private static void wildCall(Run run, Method method, Random random, boolean isTame) {
        int[] args = new int[method.getParameterCount()];
        for (int k = 0; k < args.length; k++) {
            args[k] = isTame ? random.nextInt(5) : wild(random);
        }
        if (method.getName().equals("dairy") && random.nextInt(4) > 0) {
            return;
        }
        long got = Run.answer(run.cows, method.getName(), args);
        boolean mayThrow = List.of("cow", "farm").contains(method.getName());
        must(got != Run.OTHER_EXCEPTION && (got != Run.THROWS || mayThrow), Run.written(method.getName(), args) + " answered " + Run.shown(got));
    }

    /** What a run makes is counted: no call makes anything but the exception that it throws. */
    private static void makesNothing() {
        if (!(ManagementFactory.getThreadMXBean() instanceof com.sun.management.ThreadMXBean)) {
            return;
        }
        com.sun.management.ThreadMXBean threads = (com.sun.management.ThreadMXBean) ManagementFactory.getThreadMXBean();
        Run run = new Run("makes nothing").tape(LifeTest.DAIRY).due(14, "dairy").tape("dry or milk > 3 and not at e");
        NewsCows cows = run.cows;
        cows.sentence();
        long id = Thread.currentThread().getId();
        threads.getThreadAllocatedBytes(id);
        long before = threads.getThreadAllocatedBytes(id);
        long sum = 0;
        for (int k = 0; k < 300; k++) {
            sum += callMany(cows, k);
        }
        long made = threads.getThreadAllocatedBytes(id) - before;
        must(made < 4000, "300 rounds of calls made " + made + " bytes (sum " + sum + ")");
    }

    private static long callMany(NewsCows cows, int k) {
        long sum = cows.tell(k % 3, k % 7) + cows.find(k % 7) + cows.best(0) + cows.least(1, 9) + cows.honest(2) + cows.plan(k % 3, 3);
        sum += cows.allKnow(k % 7) + cows.part(0, 1) + cows.dries(5) + cows.ahead(60) + cows.odds(k % 3, 5, k) + cows.drawn(2, k);
        sum += cows.feed(0x64617920, 0x313b0000, 0, 0, 0) + (cows.end(6) ? 1 : 0) + cows.book(1) + cows.said(-1) + cows.undo();
        sum += cows.feed(0x14000000, 0, 0, 0, 0) + (cows.end(1) ? 1 : 0) + cows.tasted(0) + cows.days(1) + cows.undo() + cows.undo();
        sum += cows.feed(0x14000000, 0, 0, 0, 0) + (cows.end(1) ? 1 : 0) + cows.week(0) + (cows.image(0) ? 1 : 0) + (cows.restore(0) ? 1 : 0);
        sum += cows.feed(0x64727900, 0, 0, 0, 0) + (cows.end(3) ? 1 : 0) + cows.sentence() + cows.now(3) + cows.cow(0, 6) + cows.farm(0, 2);
        return sum;
    }
}
