import java.io.IOException;
import java.nio.file.Files;
import java.nio.file.Path;
import java.util.ArrayList;
import java.util.List;
import java.util.regex.Matcher;
import java.util.regex.Pattern;
import java.util.stream.Stream;

/** That each sentence of the document's terms and promises is quoted by a test, and that the source has its face. */
public final class SentencesTest {
    private static final String TEXT = "\"((?:[^\"\\\\]|\\\\.)*)\"";
    private static final Pattern QUOTE = Pattern.compile("check\\.says\\((\\s*" + TEXT + "(?:\\s*\\+\\s*" + TEXT + ")*)\\)");
    private static final Pattern PART = Pattern.compile("Ahead of the calls (.*) the interface says: (---- .*)\\.");
    /** Words that stand between quotes and say nothing alone: "CREWS:", "and". */
    private static final int FEW_WORDS = 3;
    private static final Check check = new Check("SentencesTest");

    public static void main(String[] args) throws IOException {
        Path root = Path.of(args.length > 0 ? args[0] : ".");
        Path path = root.resolve("../shared/DOC.md");
        if (!Files.isReadable(path)) {
            System.out.println("SentencesTest: no document lies at " + path);
        } else {
            String document = Files.readString(path);
            String source = Files.readString(root.resolve("src/main/java/WagonWays.java"));
            sentencesAreQuoted(document, quotes(root.resolve("src/test/java")));
            sourceHasTheFace(document, source);
            sourceHasTheParts(document, source);
        }
        check.end();
    }

    private static List<String> quotes(Path tests) throws IOException {
        List<String> quotes = new ArrayList<>();
        try (Stream<Path> files = Files.list(tests)) {
            for (Path file : files.sorted().toList()) {
                Matcher found = QUOTE.matcher(Files.readString(file));
                while (found.find()) {
                    quotes.add(joined(found.group(1)));
                }
            }
        }
        return quotes;
    }

    private static String joined(String texts) {
        StringBuilder whole = new StringBuilder();
        Matcher found = Pattern.compile(TEXT).matcher(texts);
        while (found.find()) {
            whole.append(found.group(1));
        }
        return whole.toString().replace("\\\"", "\"").replace("\\\\", "\\");
    }

    private static void sentencesAreQuoted(String document, List<String> quotes) {
        for (String line : document.substring(document.indexOf("## Terms"), document.indexOf("## Not promised")).split("\n")) {
            if (line.startsWith("#") || line.startsWith("```") || PART.matcher(line).matches()) {
                continue;
            }
            // Ahead of a promise stands the call's head, and ahead of a part of the terms its number.
            String text = line.replaceFirst("^`(int|long) [^`]*`: ", "").replaceFirst("^======== \\d ", "");
            for (String unquoted : unquoted(text, quotes)) {
                check.isTrue("a test quotes: " + unquoted, unquoted.split("\\W+").length <= FEW_WORDS);
            }
        }
    }

    private static String[] unquoted(String text, List<String> quotes) {
        StringBuilder left = new StringBuilder(text);
        for (String quote : quotes) {
            for (int at = text.indexOf(quote); at >= 0; at = text.indexOf(quote, at + 1)) {
                for (int i = at; i < at + quote.length(); i++) {
                    left.setCharAt(i, '\n');
                }
            }
        }
        return left.toString().split("\n+");
    }

    /** The lines of the face stand in the source word for word, in their order. */
    private static void sourceHasTheFace(String document, String source) {
        int from = 0;
        Matcher found = Pattern.compile("(?m)^ *(public .*)$").matcher(document);
        while (found.find()) {
            String line = found.group(1);
            boolean isCall = line.endsWith(");");
            int at = source.indexOf(isCall ? line.replace(");", ") {") : line, from);
            check.isTrue("the source has " + line, at >= 0);
            from = Math.max(from, at);
        }
    }

    private static void sourceHasTheParts(String document, String source) {
        int parts = 0;
        Matcher found = PART.matcher(document);
        while (found.find()) {
            int begin = source.indexOf("// " + found.group(2));
            int end = source.indexOf("// ----", begin + 1);
            check.isTrue("the source has " + found.group(2), begin >= 0);
            String part = source.substring(Math.max(0, begin), end < 0 ? source.length() : end);
            for (String call : found.group(1).replace("`", "").split(", ")) {
                check.isTrue(call + " stands there", part.matches("(?s).*public (int|long) " + call + "\\(.*"));
            }
            parts++;
        }
        check.due("parts of the interface", parts, 6);
    }
}
