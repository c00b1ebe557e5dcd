import java.io.IOException;
import java.nio.charset.StandardCharsets;
import java.nio.file.Files;
import java.nio.file.Path;
import java.util.ArrayList;
import java.util.List;
import java.util.regex.Matcher;
import java.util.regex.Pattern;
import java.util.stream.Stream;

/**
 * What the tests quote stands in the document, where they say; and each word of the document, from what a NIGHT is to the
 * last promise, is quoted by a test, so that no sentence is without one.
 */
public final class QuotesTest {
    private static final Check CHECK = new Check();
    private static final int PROMISES = 30;
    private static final Pattern HEADING = Pattern.compile("## Promise (\\d+): \\w+ ?[^\\n]*\\n");
    private static final Pattern QUOTE = Pattern.compile("CHECK\\.promise\\((\\d+),\\s*(" + text() + "(?:\\s*\\+\\s*" + text()
            + ")*)\\);");

    private final String[] promises = new String[PROMISES + 1];
    private final boolean[][] quoted = new boolean[PROMISES + 1][];

    private static String text() {
        return "\"(?:[^\"\\\\]|\\\\.)*\"";
    }

    public static void main(String[] args) throws IOException {
        Path document = Path.of("../shared/DOC.md");
        if (!Files.exists(document)) {
            System.out.println("QuotesTest: there is no " + document + ", so no quote was looked up");
            return;
        }
        QuotesTest test = new QuotesTest();
        test.readDocument(read(document));
        test.readTests();
        test.leavesNothing();
        CHECK.end("QuotesTest");
    }

    private static String read(Path path) throws IOException {
        return Files.readString(path, StandardCharsets.UTF_8);
    }

    /** The terms are kept as promise 0: any test may quote them. */
    private void readDocument(String document) {
        int night = document.indexOf("A NIGHT is a text");
        int face = document.indexOf("## The public face");
        int terms = document.indexOf("## Terms");
        int first = document.indexOf("## Promise 1:");
        int last = document.indexOf("## Not promised");
        String told = document.substring(night, face) + document.substring(terms + "## Terms".length(), first)
                .replaceAll("(?m)^Ahead of the calls .*$", "");
        keep(0, told);
        Matcher heading = HEADING.matcher(document);
        int number = 0;
        int from = 0;
        while (heading.find()) {
            if (number > 0) {
                keep(number, document.substring(from, heading.start()));
            }
            number = Integer.parseInt(heading.group(1));
            from = heading.end();
        }
        keep(number, document.substring(from, last));
    }

    /** Without the marks of the text's own form, and what stands in a line of its own for the call. */
    private void keep(int number, String told) {
        promises[number] = told.replace("```text", "").replace("```", "").replaceAll("={4,} \\d", "")
                .replaceAll("`\\w+ \\w+\\([^`]*\\)`: ", "").replaceAll("`LineToWreck\\(\\)`: ", "")
                .replaceAll("\\s+", " ");
        quoted[number] = new boolean[promises[number].length()];
    }

    private void readTests() throws IOException {
        List<Path> files = new ArrayList<>();
        try (Stream<Path> all = Files.list(Path.of("src/test/java"))) {
            all.filter(file -> file.toString().endsWith("Test.java")).sorted().forEach(files::add);
        }
        for (Path file : files) {
            Matcher quote = QUOTE.matcher(read(file));
            while (quote.find()) {
                String words = quote.group(2).replaceAll("\"\\s*\\+\\s*\"", "").replace("\\\"", "\"");
                take(Integer.parseInt(quote.group(1)), words.substring(1, words.length() - 1), file);
            }
        }
    }

    private void take(int number, String words, Path file) {
        boolean stands = mark(number, words) | mark(0, words);
        CHECK.due(file.getFileName() + ": whether promise " + number + " has the words: " + words, stands ? 1 : 0, 1);
    }

    private boolean mark(int number, String words) {
        int at = promises[number].indexOf(words);
        for (int i = 0; at >= 0 && i < words.length(); i++) {
            quoted[number][at + i] = true;
        }
        return at >= 0;
    }

    private void leavesNothing() {
        for (int number = 0; number <= PROMISES; number++) {
            StringBuilder left = new StringBuilder();
            for (int i = 0; i < promises[number].length(); i++) {
                left.append(quoted[number][i] ? ' ' : promises[number].charAt(i));
            }
            String words = left.toString().replaceAll("\\s+", " ").trim();
            CHECK.due((number == 0 ? "the terms" : "promise " + number) + ": words that no test quotes: " + words,
                    words.matches("[^A-Za-z0-9]*") ? 0 : 1, 0);
        }
    }
}
