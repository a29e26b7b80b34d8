import java.io.IOException;
import java.nio.charset.StandardCharsets;
import java.nio.file.DirectoryStream;
import java.nio.file.Files;
import java.nio.file.Path;
import java.util.ArrayList;
import java.util.Comparator;
import java.util.List;
import java.util.regex.Matcher;
import java.util.regex.Pattern;

/** Every sentence of "Terms" and of the promises is named by a test of the five classes of boundaries. */
public final class EverySentence {
    private static final Path DOCUMENT = Path.of("../shared/DOC.md");
    private static final Path TESTS = Path.of("src/test/java");
    private static final String WORDS = "\"(?:[^\"\\\\]|\\\\.)*\"";
    private static final Pattern NAMED =
        Pattern.compile("Edges\\.(?:promise\\((\\d+), |term\\()(" + WORDS + "(?:\\s*\\+\\s*" + WORDS + ")*)\\)");
    /** What stands round the sentences of "Terms" and is none: fences, numbers of parts, the interface's headings. */
    private static final String FRAME = "```text|```|======== \\d|Ahead of the calls [^:]*says: ---- [^.]*\\.|## Terms";
    private static int wrong = 0;

    private record Named(int promise, String words) {
    }

    private static List<Named> namedByTests() throws IOException {
        List<Named> all = new ArrayList<>();
        try (DirectoryStream<Path> files = Files.newDirectoryStream(TESTS, "*Edges.java")) {
            for (Path file : files) {
                Matcher m = NAMED.matcher(Files.readString(file, StandardCharsets.US_ASCII));
                while (m.find()) {
                    all.add(new Named(m.group(1) == null ? 0 : Integer.parseInt(m.group(1)), joined(m.group(2))));
                }
            }
        }
        // the longest first: one may stand within another
        all.sort(Comparator.comparingInt((Named n) -> -n.words.length()).thenComparing(n -> n.words));
        return all;
    }

    private static String joined(String words) {
        StringBuilder text = new StringBuilder();
        Matcher part = Pattern.compile(WORDS).matcher(words);
        while (part.find()) {
            text.append(part.group(), 1, part.group().length() - 1);
        }
        return text.toString();
    }

    /** A part of the document in one line, less the words that are named of a promise (0: of "Terms"). */
    private static String leftOf(String part, int promise, List<Named> named) {
        String left = part.replaceAll("\\s+", " ");
        for (Named n : named) {
            left = n.promise == promise ? left.replace(n.words, " ") : left;
        }
        return left;
    }

    private static void nothingLeft(String where, String left) {
        if (left.matches("(?s).*\\w.*")) {
            wrong++;
            System.out.println(where + " says what no test names: " + left.trim());
        }
    }

    private static String part(String document, String head) {
        int from = document.indexOf(head);
        int to = from < 0 ? -1 : document.indexOf("\n## ", from);
        return from < 0 ? "" : document.substring(from, to < 0 ? document.length() : to);
    }

    public static void main(String[] args) throws IOException {
        if (!Files.exists(DOCUMENT)) {
            System.out.println("no document: nothing to compare");
            return;
        }
        String document = Files.readString(DOCUMENT, StandardCharsets.UTF_8);
        List<Named> named = namedByTests();
        nothingLeft("Terms", leftOf(part(document, "## Terms"), 0, named).replaceAll(FRAME, " "));
        int promises = 0;
        while (!part(document, "## Promise " + (promises + 1) + ":").isEmpty()) {
            promises++;
            String text = part(document, "## Promise " + promises + ":").replaceFirst("(?s)^.*?`[^`]*`:", "");
            nothingLeft("Promise " + promises, leftOf(text, promises, named));
        }
        System.out.println(named.size() + " sentences are named, of " + promises + " promises and Terms");
        if (wrong != 0 || promises == 0) {
            System.exit(1);
        }
    }
}
