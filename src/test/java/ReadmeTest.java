import java.io.IOException;
import java.lang.reflect.Method;
import java.lang.reflect.Modifier;
import java.nio.charset.StandardCharsets;
import java.nio.file.DirectoryStream;
import java.nio.file.Files;
import java.nio.file.Path;
import java.util.ArrayList;
import java.util.List;
import java.util.TreeSet;
import java.util.regex.Matcher;
import java.util.regex.Pattern;

/** Makes the calls that README.md shows and looks at the answers that it shows behind them; the class's source is the first argument. */
public final class ReadmeTest {
    private static final Pattern BLOCK = Pattern.compile("```java\n(.*?)```", Pattern.DOTALL);
    private static final Pattern CALL = Pattern.compile("cows\\.(\\w+)\\(([^()]*)\\);\\s*// (-?\\d+|true|false|NONE|NoSuchElementException)(?:: .*)?");
    private static final Pattern TEXT = Pattern.compile("put\\(cows, ((?:\"[^\"\\\\]*\"(?: \\+ )?)+)\\);");
    private static final Pattern PART = Pattern.compile("\"([^\"]*)\"");
    private static final String NEW = "NewsCows cows = new NewsCows();";

    private static final TreeSet<String> SHOWN = new TreeSet<>();
    private static NewsCows cows;

    public static void main(String[] args) throws IOException {
        if (args.length == 0) {
            Run.fail("the path of the class's source is not told");
            Run.finish();
            return;
        }
        Path root = Path.of(args[0]).toAbsolutePath().normalize().getParent().getParent().getParent().getParent();
        Path tests = root.resolve("src/test/java");
        String readme = Files.readString(root.resolve("README.md"));
        String own = plain(Files.readString(tests.resolve("ReadmeTest.java")));
        Matcher blocks = BLOCK.matcher(readme);
        while (blocks.find()) {
            String block = blocks.group(1);
            if (!block.startsWith("static ")) {
                makeCalls(block);
            } else if (!own.contains(plain(block))) {
                Run.fail("README.md shows a method that is not the one tested here:\n" + block);
            }
        }
        allCallsShown();
        allTestsNamed(readme, tests);
        Run.finish();
    }

    // README.md shows this method; it must stand there as it stands here.
    static void put(NewsCows cows, String text) {
        byte[] bytes = text.getBytes(StandardCharsets.ISO_8859_1);
        cows.end(0);
        for (int from = 0; from < bytes.length; from += 20) {
            int[] five = new int[5];
            for (int k = 0; k < 20 && from + k < bytes.length; k++) {
                five[k / 4] |= (bytes[from + k] & 255) << 24 - k % 4 * 8;
            }
            cows.feed(five[0], five[1], five[2], five[3], five[4]);
        }
        cows.end(bytes.length);
    }

    private static String plain(String text) {
        return text.replaceAll("\\s+", " ").trim();
    }

    private static void makeCalls(String block) {
        for (String statement : statements(block)) {
            Matcher call = CALL.matcher(statement);
            Matcher text = TEXT.matcher(statement);
            if (statement.equals(NEW)) {
                cows = new NewsCows();
            } else if (cows == null) {
                Run.fail("README.md shows a call ahead of any object: " + statement);
            } else if (text.matches()) {
                put(cows, joined(text.group(1)));
            } else if (call.matches()) {
                lookAt(statement, call.group(1), numbers(call.group(2)), call.group(3));
            } else {
                Run.fail("README.md shows what is neither a text nor a call with an answer: " + statement);
            }
        }
    }

    /** A statement may go over several lines; the last of them has its semicolon outside of a text. */
    private static List<String> statements(String block) {
        List<String> all = new ArrayList<>();
        StringBuilder open = new StringBuilder();
        for (String line : block.split("\n")) {
            open.append(open.length() == 0 ? "" : " ").append(line.trim());
            if (line.matches(".*\\);(\\s*//.*)?")) {
                all.add(open.toString());
                open.setLength(0);
            }
        }
        if (open.length() > 0) {
            all.add(open.toString());
        }
        return all;
    }

    private static String joined(String parts) {
        StringBuilder text = new StringBuilder();
        Matcher part = PART.matcher(parts);
        while (part.find()) {
            text.append(part.group(1));
        }
        return text.toString();
    }

    private static int[] numbers(String args) {
        if (args.isEmpty()) {
            return new int[0];
        }
        String[] texts = args.split(", ");
        int[] numbers = new int[texts.length];
        for (int k = 0; k < texts.length; k++) {
            numbers[k] = texts[k].equals("NewsCows.NONE") ? NewsCows.NONE : (int) (long) Long.decode(texts[k]);
        }
        return numbers;
    }

    private static void lookAt(String statement, String call, int[] args, String shown) {
        SHOWN.add(call);
        String got = Run.shown(Run.answer(cows, call, args)).replace("throws.", "");
        if (shown.equals("true") || shown.equals("false")) {
            got = got.equals("1") ? "true" : "false";
        }
        Run.alike("README.md: " + statement, shown.equals("NONE") ? "-1" : shown, got);
    }

    private static void allCallsShown() {
        for (Method method : NewsCows.class.getDeclaredMethods()) {
            if (Modifier.isPublic(method.getModifiers()) && !SHOWN.contains(method.getName())) {
                Run.fail("README.md shows no call of " + method.getName());
            }
        }
    }

    private static void allTestsNamed(String readme, Path tests) throws IOException {
        try (DirectoryStream<Path> files = Files.newDirectoryStream(tests, "*.java")) {
            for (Path file : files) {
                String name = file.getFileName().toString().replace(".java", "");
                if (!Pattern.compile("`" + name + "(\\.java)?`").matcher(readme).find()) {
                    Run.fail("README.md does not name " + name);
                }
            }
        }
    }
}
