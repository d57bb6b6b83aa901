import java.io.IOException;
import java.nio.file.Files;
import java.nio.file.Path;
import java.util.TreeSet;

/** Runs that are named by the sentence of the document that they look at; a quote must stand in its section. */
final class Quotes {
    private static String doc;
    private static final TreeSet<Integer> PROMISES = new TreeSet<>();
    private static int quotes;

    private Quotes() {
    }

    /** The document stands beside the project; the path of the class's source is the first argument. */
    static void find(String[] args) throws IOException {
        if (args.length > 0) {
            Path root = Path.of(args[0]).toAbsolutePath().normalize().getParent().getParent().getParent().getParent();
            Path file = root.resolveSibling("shared").resolve("DOC.md");
            doc = Files.isReadable(file) ? plain(Files.readString(file)) : null;
        }
        System.out.println(doc == null ? "quotes are not compared with the document" : "quotes are compared with the document");
    }

    private static String plain(String text) {
        return text.replace("```text", " ").replace("```", " ").replaceAll("\\s+", " ");
    }

    /** A run that looks at a sentence of the terms. */
    static Run term(String sentence) {
        return in("Terms", sentence);
    }

    /** A run that looks at a sentence of what it is. */
    static Run whatItIs(String sentence) {
        return in("What it is", sentence);
    }

    /** A run that looks at a sentence of a promise. */
    static Run promise(int number, String sentence) {
        PROMISES.add(number);
        return in("Promise " + number + ":", sentence);
    }

    private static Run in(String heading, String sentence) {
        quotes++;
        if (doc != null) {
            int from = doc.indexOf("## " + heading);
            int to = from < 0 ? from : doc.indexOf(" ## ", from);
            String section = from < 0 ? "" : doc.substring(from, to < 0 ? doc.length() : to);
            if (!section.contains(plain(sentence))) {
                Run.fail("the document does not say under " + heading + " '" + sentence + "'");
            }
        }
        return new Run(heading + " '" + sentence + "'");
    }

    static void allPromises(int last) {
        for (int number = 1; number <= last; number++) {
            if (!PROMISES.contains(number)) {
                Run.fail("no run looks at promise " + number);
            }
        }
    }

    static void finish() {
        System.out.println(quotes + " sentences looked at");
        Run.finish();
    }
}
