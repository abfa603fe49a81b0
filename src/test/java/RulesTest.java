import java.nio.file.Files;
import java.nio.file.Path;
import java.util.List;
import java.util.regex.Matcher;
import java.util.regex.Pattern;

/** What of LANGUAGE.md can be seen in the source's lines. */
public final class RulesTest {
    private static final List<String> WORDS = List.of("throw", "throws", "try", "catch", "finally", "synchronized",
        "assert", "import", "package", "record", "protected", "double", "float");
    private static final List<String> SIGNS = List.of("->", "::", "@", "Exact(", "System.out", "\" +", "+ \"");

    public static void main(String[] args) throws Exception {
        List<String> lines = Files.readAllLines(Path.of(args[0]));
        int classes = 0, from = 0;
        for (int i = 0; i < lines.size(); i++) {
            String line = lines.get(i);
            int at = i + 1;
            if (line.strip().startsWith("*") || line.strip().startsWith("/") ) continue;
            String code = line.replaceAll("\"[^\"]*\"", "\"\"").replaceAll("//.*", "");
            for (String word : WORDS) {
                if (Pattern.compile("\\b" + word + "\\b").matcher(code).find()) Checks.fail("line " + at + ": " + word);
            }
            for (String sign : SIGNS) if (code.contains(sign)) Checks.fail("line " + at + ": " + sign);
            if (line.length() > 120) Checks.fail("line " + at + " is long");
            if (Pattern.compile("\\bclass \\w+").matcher(code).find()) classes++;
            if (code.matches(" {4}( {4})?[^ ].*\\) \\{")) from = i;
            if (code.matches(" {4}( {4})?\\}") && i - from > 60) Checks.fail("line " + at + ": a long method");
            Matcher m = Pattern.compile("^ {4,8}(?:[\\w\\[\\]]+ )+\\w+\\(([^)]*)\\) \\{").matcher(code);
            if (m.find() && m.group(1).split(",").length > 7) Checks.fail("line " + at + ": many parameters");
            Checks.due("line " + at, 0, 0);
        }
        if (classes > 12) Checks.fail(classes + " classes");
        Checks.end("RulesTest");
    }
}
