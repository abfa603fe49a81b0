import java.lang.reflect.Field;
import java.lang.reflect.Method;
import java.lang.reflect.Modifier;
import java.nio.file.Files;
import java.nio.file.Path;
import java.util.HashSet;
import java.util.List;
import java.util.Set;
import java.util.regex.Matcher;
import java.util.regex.Pattern;

/** What of LANGUAGE.md can be seen in the source's lines and in the compiled classes. */
public final class RulesTest {
    private static final List<String> WORDS = List.of("throw", "throws", "try", "catch", "finally", "synchronized",
        "assert", "import", "package", "record", "protected", "double", "float");
    private static final List<String> SIGNS = List.of("->", "::", "@", "Exact(", "System.out", "\" +", "+ \"");

    public static void main(String[] args) throws Exception {
        List<String> lines = Files.readAllLines(Path.of(args[0]));
        int classes = 0, from = 0;
        for (int i = 0; i < lines.size(); i++) {
            String line = lines.get(i);
            int at = i + 1;
            if (line.strip().startsWith("*") || line.strip().startsWith("/") ) continue;
            String code = line.replaceAll("\"[^\"]*\"", "\"\"").replaceAll("//.*", "");
            for (String word : WORDS) {
                if (Pattern.compile("\\b" + word + "\\b").matcher(code).find()) Checks.fail("line " + at + ": " + word);
            }
            for (String sign : SIGNS) if (code.contains(sign)) Checks.fail("line " + at + ": " + sign);
            if (line.length() > 120) Checks.fail("line " + at + " is long");
            if (Pattern.compile("\\bclass \\w+").matcher(code).find()) classes++;
            if (code.matches(" {4}( {4})?[^ ].*\\) \\{")) from = i;
            if (code.matches(" {4}( {4})?\\}") && i - from > 60) Checks.fail("line " + at + ": a long method");
            Matcher m = Pattern.compile("^ {4,8}(?:[\\w\\[\\]]+ )+\\w+\\(([^)]*)\\) \\{").matcher(code);
            if (m.find() && m.group(1).split(",").length > 7) Checks.fail("line " + at + ": many parameters");
            Checks.due("line " + at, 0, 0);
        }
        if (classes > 12) Checks.fail(classes + " classes");
        members();
        Checks.end("RulesTest");
    }

    /** Rule 1, 2, 5, 11: who sees what, what is static, how many fields. */
    private static void members() {
        Set<String> face = new HashSet<>();
        for (Method m : LeanedOut.class.getMethods()) face.add(m.getName());
        fields(LeanedOut.class);
        methods(LeanedOut.class, face);
        for (Class<?> inside : LeanedOut.class.getDeclaredClasses()) {
            int seen = inside.getModifiers();
            if (!Modifier.isStatic(seen)) Checks.fail(inside + " isn't static");
            if (Modifier.isPublic(seen) || Modifier.isProtected(seen)) Checks.fail(inside + " is seen from outside");
            if (inside.getDeclaredClasses().length > 0) Checks.fail(inside + " has classes inside");
            fields(inside);
            methods(inside, face);
        }
    }

    private static void fields(Class<?> c) {
        int own = 0;
        for (Field f : c.getDeclaredFields()) {
            int seen = f.getModifiers();
            if (!Modifier.isStatic(seen)) own++;
            if (Modifier.isStatic(seen) && !Modifier.isFinal(seen)) Checks.fail(f + " is static and changes");
            boolean isOfFace = Modifier.isPublic(seen) && Modifier.isStatic(seen);
            if (c == LeanedOut.class && !Modifier.isPrivate(seen) && !isOfFace) Checks.fail(f + " isn't private");
        }
        if (own > 20) Checks.fail(c + " has " + own + " fields");
    }

    private static void methods(Class<?> c, Set<String> face) {
        for (Method m : c.getDeclaredMethods()) {
            boolean isPrivate = Modifier.isPrivate(m.getModifiers());
            if (isPrivate && face.contains(m.getName())) Checks.fail(m + " bears the name of a public one");
            if (m.isSynthetic()) Checks.fail(m + " is the compiler's");
        }
    }
}
