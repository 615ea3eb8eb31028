import java.io.IOException;
import java.nio.file.DirectoryStream;
import java.nio.file.Files;
import java.nio.file.Path;
import java.util.ArrayList;
import java.util.LinkedHashMap;
import java.util.List;
import java.util.Map;
import java.util.regex.Matcher;
import java.util.regex.Pattern;

/**
 * Of the tests of boundary cases: each quotes the document to the letter, from the part that it names, and every word of
 * the promises and terms stands in some quote.
 */
public final class QuoteTest extends CourtCheck {
    private static final Path DOCUMENT = Path.of("../shared/DOC.md");
    private static final Path TESTS = Path.of("src/test/java");
    private static final Pattern HEADING = Pattern.compile("(?m)^(?:## (What it is|Promise \\d+):?.*|==== (\\d)\\. .*)$");
    private static final Pattern TEST = Pattern.compile("(?s)(?:/\\*\\* ([A-Z][a-z ]+[a-z0-9 ]*): \"([^\\n]*)\" \\*/\\s*)?"
        + "private static void (\\w+)\\(\\)");
    private record Quote(String part, String words, String where) {
    }

    private static String flat(String text) {
        return text.replaceAll("```(text)?", " ").replaceAll("\\s+", " ");
    }

    /** The parts that hold promises and terms, by their names; the line of a term's heading is told with it. */
    private static Map<String, String> parts() throws IOException {
        String text = Files.readString(DOCUMENT);
        Map<String, String> parts = new LinkedHashMap<>();
        Matcher heading = HEADING.matcher(text);
        while (heading.find()) {
            String name = heading.group(1) != null ? heading.group(1) : "Terms " + heading.group(2);
            int from = heading.group(1) != null ? heading.end() : heading.start();
            Matcher next = Pattern.compile("(?m)^(## |==== )").matcher(text);
            int to = next.find(heading.end()) ? next.start() : text.length();
            // The face of the call stands ahead of what is promised.
            parts.put(name, flat(text.substring(from, to)).replaceAll("^ `[^`]*`:", "").replaceAll("^==== \\d\\.", ""));
        }
        return parts;
    }

    private static List<Quote> quotes() throws IOException {
        List<Quote> quotes = new ArrayList<>();
        try (DirectoryStream<Path> files = Files.newDirectoryStream(TESTS, "Boundary*Test.java")) {
            for (Path file : files) {
                Matcher found = TEST.matcher(Files.readString(file));
                while (found.find()) {
                    String where = file.getFileName() + ", " + found.group(3);
                    yes("a quote ahead of " + where, found.group(2) != null);
                    if (found.group(2) != null) {
                        quotes.add(new Quote(found.group(1), found.group(2), where));
                    }
                }
            }
        }
        return quotes;
    }

    private static void quotesAreTrue(Map<String, String> parts, List<Quote> quotes) {
        for (Quote quote : quotes) {
            String part = parts.getOrDefault(quote.part, "");
            yes(quote.where + ": in " + quote.part + " stands \"" + quote.words + "\"", part.contains(quote.words));
        }
    }

    private static void everyWordIsQuoted(Map<String, String> parts, List<Quote> quotes) {
        for (Map.Entry<String, String> part : parts.entrySet()) {
            if (part.getKey().startsWith("What")) {
                // It tells what is promised further on.
                continue;
            }
            StringBuilder rest = new StringBuilder(part.getValue());
            for (Quote quote : quotes) {
                int from = quote.part.equals(part.getKey()) ? part.getValue().indexOf(quote.words) : -1;
                for (int i = from; i >= 0 && i < from + quote.words.length(); i++) {
                    rest.setCharAt(i, '.');
                }
            }
            String left = rest.toString().replaceAll("[.,:; ]+", " ").strip();
            yes(part.getKey() + ": quoted is \"" + left + "\"", left.isEmpty());
        }
    }

    public static void main(String[] args) throws IOException {
        test = "quotes";
        Map<String, String> parts = parts();
        List<Quote> quotes = quotes();
        due("promises, terms and what it is", parts.size(), 31 + 3 + 1);
        quotesAreTrue(parts, quotes);
        everyWordIsQuoted(parts, quotes);
        finish(QuoteTest.class);
    }
}
