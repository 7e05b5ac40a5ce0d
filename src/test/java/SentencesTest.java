import java.io.IOException;
import java.nio.charset.StandardCharsets;
import java.nio.file.DirectoryStream;
import java.nio.file.Files;
import java.nio.file.Path;
import java.util.regex.Matcher;
import java.util.regex.Pattern;

/**
 * Each sentence of the promises and of the terms is quoted by a test (Due.promise, Due.term), and
 * what the tests quote stands in the document.
 */
public final class SentencesTest {
    private static final Path DOCUMENT = Path.of("../shared/DOC.md");
    private static final Path TESTS = Path.of("src/test/java");
    private static final int PROMISES = 46;
    private static final Pattern QUOTE = Pattern.compile(
            "Due\\.(?:promise\\((\\d+),|term\\()\\s*((?:\"(?:[^\"\\\\]|\\\\.)*\"[\\s+]*)+)\\);");

    private final String[] told = new String[PROMISES + 1];
    private final boolean[][] quoted = new boolean[PROMISES + 1][];

    private SentencesTest(String document) {
        for (int i = 0; i <= PROMISES; i++) {
            String heading = i == 0 ? "## Terms" : "## Promise " + i + ":";
            int from = document.indexOf(heading);
            from = document.indexOf('\n', from);
            String next = i == PROMISES ? "## Not promised" : "## Promise " + (i + 1) + ":";
            told[i] = plain(document.substring(from, document.indexOf(next)));
            if (i == 0) {
                told[i] = told[i].substring(0, told[i].indexOf("The constants:"));
            } else {
                told[i] = told[i].substring(told[i].indexOf("`: ") + 3);
            }
            quoted[i] = new boolean[told[i].length()];
        }
    }

    public static void main(String[] args) throws IOException {
        SentencesTest sentences = new SentencesTest(Files.readString(DOCUMENT));
        try (DirectoryStream<Path> tests = Files.newDirectoryStream(TESTS, "*.java")) {
            for (Path test : tests) {
                sentences.read(Files.readString(test, StandardCharsets.UTF_8));
            }
        }
        sentences.look();
        Due.report();
    }

    /** Without the marks of the document's parts and of its indented text. */
    private static String plain(String text) {
        return text.replace("```text", " ").replace("```", " ").replaceAll("==== \\d\\.", " ")
                .replaceAll("\\s+", " ").trim();
    }

    private void read(String test) {
        Matcher quotes = QUOTE.matcher(test);
        while (quotes.find()) {
            int number = quotes.group(1) == null ? 0 : Integer.parseInt(quotes.group(1));
            String words = quotes.group(2).trim().replaceAll("\"\\s*\\+\\s*\"", "");
            mark(number, words.substring(1, words.length() - 1));
        }
    }

    private void mark(int number, String words) {
        int at = told[number].indexOf(words);
        Due.yes("<" + words + "> stands in promise " + number, at >= 0);
        for (int i = at; i >= 0 && i < at + words.length(); i++) {
            quoted[number][i] = true;
        }
    }

    private void look() {
        for (int number = 0; number <= PROMISES; number++) {
            StringBuilder missing = new StringBuilder();
            for (int i = 0; i < told[number].length(); i++) {
                if (!quoted[number][i]) {
                    missing.append(told[number].charAt(i));
                }
            }
            boolean nothing = missing.toString().isBlank();
            Due.yes("promise " + number + " (0: terms) is quoted but for <" + missing + ">",
                    nothing);
        }
    }
}
