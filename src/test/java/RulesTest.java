import java.io.IOException;
import java.nio.file.Files;
import java.nio.file.Path;
import java.util.List;
import java.util.regex.Matcher;
import java.util.regex.Pattern;

/** Rules of LANGUAGE.md that the text of the source shows: words that may not stand there, and sizes. */
public final class RulesTest {
    private static final String[] FORBIDDEN = {
        "\\bpackage\\b", "\\bsynchronized\\b", "\\bassert\\b", "\\bfinally\\b", "\\btry\\b", "\\bcatch\\b", "\\bthrow\\b",
        "->", "::", "Exact\\b", "\\bSystem\\.(?!arraycopy)", "\\bRandom\\b", "\\bThread\\b", "\\bprotected\\b", "\\bdouble\\b",
        "\\bfloat\\b", "\\bwhile\\b", "\\bstatic \\{", "\\bhashCode\\b", "\\btoString\\b", "\\bObject\\b", "\\bvar\\b"};
    private static final Check check = new Check("RulesTest");

    public static void main(String[] args) throws IOException {
        Path source = Path.of(args.length > 0 ? args[0] : ".", "src/main/java/WagonWays.java");
        String text = Files.readString(source);
        String code = text.replaceAll("(?s)/\\*.*?\\*/", "").replaceAll("//[^\n]*", "");
        for (String word : FORBIDDEN) {
            Matcher found = Pattern.compile(word).matcher(code);
            check.isTrue("no " + word, !found.find());
        }
        check.isTrue("signs 1 to 126 alone", text.chars().allMatch(c -> c == '\n' || c >= 32 && c <= 126));
        imports(code);
        parameters(code);
        methodsAreShort(text.lines().toList());
        Matcher classes = Pattern.compile("\\bclass \\w+").matcher(code);
        check.isTrue("twelve classes at most", classes.results().count() <= 12);
        check.end();
    }

    private static void imports(String code) {
        Matcher found = Pattern.compile("import ([^;]*);").matcher(code);
        while (found.find()) {
            check.isTrue("import " + found.group(1), found.group(1).equals("java.util.Arrays"));
        }
    }

    private static void parameters(String code) {
        Matcher found = Pattern.compile("(\\w+) (\\w+)\\(([^()]*)\\) \\{").matcher(code);
        while (found.find()) {
            check.isTrue(found.group(2) + " has seven parameters at most", found.group(3).split(",").length <= 7);
        }
    }

    /** A method begins with a line that ends in ") {" and ends with a brace as far in as it began. */
    private static void methodsAreShort(List<String> lines) {
        Pattern head = Pattern.compile("( {4}| {8})[A-Za-z].*\\) \\{");
        for (int i = 0; i < lines.size(); i++) {
            Matcher found = head.matcher(lines.get(i));
            if (found.matches()) {
                int end = lines.subList(i, lines.size()).indexOf(found.group(1) + "}");
                check.isTrue("sixty lines at most: " + lines.get(i).trim(), end >= 0 && end < 60);
            }
        }
    }
}
