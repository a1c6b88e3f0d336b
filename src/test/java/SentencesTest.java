import java.io.IOException;
import java.nio.charset.StandardCharsets;
import java.nio.file.DirectoryStream;
import java.nio.file.Files;
import java.nio.file.Path;
import java.nio.file.Paths;
import java.util.ArrayList;
import java.util.Arrays;
import java.util.List;
import java.util.regex.Matcher;
import java.util.regex.Pattern;

/**
 * Each sentence of the document is named by a test: from its first line to its last no words are left that no test
 * quotes, but for headings, what FaceTest reads, and what promises nothing.
 */
public final class SentencesTest {
    private static final Pattern QUOTE = Pattern.compile("\\bsentence\\(((?:\\s*\\+?\\s*\"(?:[^\"\\\\]|\\\\.)*\")+)\\s*\\)");
    private static final Pattern LITERAL = Pattern.compile("\"((?:[^\"\\\\]|\\\\.)*)\"");
    /** The first two sum up what the Terms tell behind them; the others set free. */
    private static final List<String> PROMISE_NOTHING = Arrays.asList(
            "Bathing machines take you out of your depth:",
            "Hour by hour one is ducked as planned, if he can be,",
            "How the state is held inside the object is free, as are the speed of each call, the text of toString and the behaviour of equals and hashCode. "
                    + "Use of one object from several threads at once is not promised to be safe.");

    private static int wrong;

    private static void complain(String what) {
        wrong++;
        System.out.println(what);
    }

    private static String read(Path path) throws IOException {
        return new String(Files.readAllBytes(path), StandardCharsets.UTF_8);
    }

    /** The document without headings, without the face, without what promises nothing. */
    private static String sentences(String document) {
        String rest = document.replaceAll("(?s)```java.*?```", "").replace("```text", "").replace("```", "");
        StringBuilder kept = new StringBuilder();
        for (String line : rest.split("\n")) {
            boolean summary = line.startsWith(PROMISE_NOTHING.get(0)) || line.startsWith(PROMISE_NOTHING.get(1));
            if (!line.startsWith("#") && !line.startsWith("Ahead of the calls") && !line.equals("The constants:") && !summary) {
                kept.append(line.replace(PROMISE_NOTHING.get(2), "").replaceFirst("^`[a-z]+ [a-z]+\\([a-z, ]*\\)`:", "")
                        .replaceFirst("^I[IV]*\\. ", "").replaceFirst("^The constants: ", "")).append(' ');
            }
        }
        return kept.toString().replaceAll("\\s+", " ");
    }

    private static List<String> quotes() throws IOException {
        List<String> quotes = new ArrayList<>();
        try (DirectoryStream<Path> files = Files.newDirectoryStream(Paths.get("src/test/java"), "*Test.java")) {
            for (Path file : files) {
                Matcher quote = QUOTE.matcher(read(file));
                while (quote.find()) {
                    StringBuilder words = new StringBuilder();
                    Matcher literal = LITERAL.matcher(quote.group(1));
                    while (literal.find()) {
                        words.append(literal.group(1));
                    }
                    quotes.add(words.toString().replaceAll("\\s+", " "));
                }
            }
        }
        return quotes;
    }

    private static void look(String document) throws IOException {
        for (String none : PROMISE_NOTHING) {
            if (!document.replaceAll("\\s+", " ").contains(none)) {
                complain("the document has not: " + none);
            }
        }
        String sentences = sentences(document);
        boolean[] quoted = new boolean[sentences.length()];
        for (String quote : quotes()) {
            for (int at = sentences.indexOf(quote); at >= 0; at = sentences.indexOf(quote, at + 1)) {
                Arrays.fill(quoted, at, at + quote.length(), true);
            }
        }
        StringBuilder left = new StringBuilder();
        for (int k = 0; k < quoted.length; k++) {
            left.append(quoted[k] ? '\n' : sentences.charAt(k));
        }
        for (String words : left.toString().split("\n+")) {
            if (words.matches(".*[A-Za-z0-9].*")) {
                complain("no test names these words: " + words);
            }
        }
        System.out.println(sentences.length() + " signs of the document, named by " + quotes().size() + " quotes of it");
    }

    public static void main(String[] args) throws IOException {
        look(read(Paths.get("../shared/DOC.md")));
        if (wrong != 0) {
            System.exit(1);
        }
    }
}
