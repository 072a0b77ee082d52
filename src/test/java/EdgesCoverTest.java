import java.nio.file.DirectoryStream;
import java.nio.file.Files;
import java.nio.file.Path;
import java.util.Arrays;
import java.util.List;
import java.util.regex.Matcher;
import java.util.regex.Pattern;

/** No sentence of the document, from its section "Terms" on, is without a test that quotes it. */
public final class EdgesCoverTest {
    /** What names no edge: heads, and what only leads to what is quoted. */
    private static final List<String> LEFT_OUT = List.of("## Terms ==== 1. TERMS AND RULES",
        "``` ==== 2. STRATEGIES ```text",
        "``` ==== 3. RULES BESIDE RULES ```text", "``` REFUSALS (", "Details.", ", and",
        "A TERM is a CONSTANT, a VARIABLE, or an OPERATOR with its arguments, also TERMS;",
        "```text A TERM is read from a ROW of letters:", "A STRATEGY makes of a TERM another one, or FAILS:",
        "MATCH of a PATTERN (a TERM) and a TERM, with what VARIABLES are bound to so far:",
        ", the first with the first, then the second with the second;");

    public static void main(String[] args) throws Exception {
        String doc = Files.readString(Path.of("../shared/DOC.md")).replaceAll("\\s+", " ");
        boolean[] isQuoted = new boolean[doc.length()];
        try (DirectoryStream<Path> tests = Files.newDirectoryStream(Path.of("src/test/java"), "Edges*Test.java")) {
            for (Path test : tests) {
                // A quote may be written over several lines.
                String text = Files.readString(test).replaceAll("\"\\s*\\+ \"", "");
                Matcher quote = Pattern.compile("(?:Edge\\.of\\(|withRules\\(|withForty\\(|sentence = )\"([^\"\n]+)\"")
                    .matcher(text);
                while (quote.find()) {
                    mark(doc, quote.group(1), isQuoted);
                }
            }
        }
        int wrong = 0;
        for (String left : notQuoted(doc, isQuoted)) {
            wrong++;
            System.out.println("no test quotes: " + left);
        }
        if (wrong != 0) {
            System.exit(1);
        }
        System.out.println("each sentence is quoted by a test");
    }

    private static void mark(String doc, String quote, boolean[] isQuoted) {
        for (int at = doc.indexOf(quote); at >= 0; at = doc.indexOf(quote, at + 1)) {
            Arrays.fill(isQuoted, at, at + quote.length(), true);
        }
    }

    private static List<String> notQuoted(String doc, boolean[] isQuoted) {
        StringBuilder left = new StringBuilder();
        int end = doc.indexOf("## Not promised");
        for (int i = doc.indexOf("## Terms"); i < end; i++) {
            left.append(isQuoted[i] ? '\n' : doc.charAt(i));
        }
        // A promise's head ends with the call's own line.
        String text = left.toString().replaceAll("## Promise \\d+: [^`\n]*`[^`\n]*`:", "");
        return Arrays.stream(text.split("\n")).map(String::trim)
            .filter(s -> s.matches(".*\\w.*") && !LEFT_OUT.contains(s)).toList();
    }
}
