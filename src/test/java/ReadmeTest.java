import java.lang.reflect.Method;
import java.nio.file.Files;
import java.nio.file.Path;
import java.util.HashMap;
import java.util.Map;
import java.util.regex.Matcher;
import java.util.regex.Pattern;

/** README.md tells by calls how the class is used: each answers what stands behind it. */
public final class ReadmeTest {
    private static final Pattern MADE = Pattern.compile("LeanedOut (\\w+) = new LeanedOut\\(\\);");
    private static final Pattern CALL = Pattern.compile("(\\w+)\\.(\\w+)\\((.*)\\);\\s+// (-?\\d+)(:.*)?");
    private static final int FEWEST_CALLS = 50;

    private final Map<String, LeanedOut> objects = new HashMap<>();
    private final Map<String, Method> face = new HashMap<>();
    private int calls = 0;

    public static void main(String[] args) throws Exception {
        new ReadmeTest().read();
        Checks.end("ReadmeTest");
    }

    private void read() throws Exception {
        for (Method m : LeanedOut.class.getDeclaredMethods()) face.put(m.getName(), m);
        boolean inJava = false;
        for (String line : Files.readAllLines(Path.of("README.md"))) {
            if (line.startsWith("```")) {
                inJava = line.equals("```java");
            } else if (inJava) {
                one(line);
            }
        }
        if (calls < FEWEST_CALLS) Checks.fail("README.md shows " + calls + " calls only");
    }

    /** A line of another form would show what nobody has looked at. */
    private void one(String line) throws Exception {
        Matcher made = MADE.matcher(line);
        Matcher call = CALL.matcher(line);
        if (made.matches()) {
            objects.put(made.group(1), new LeanedOut());
        } else if (call.matches() && objects.containsKey(call.group(1)) && face.containsKey(call.group(2))) {
            Object got = face.get(call.group(2)).invoke(objects.get(call.group(1)), numbers(call.group(3)));
            Checks.due("README.md: " + line, ((Number) got).longValue(), Long.parseLong(call.group(4)));
            calls++;
        } else {
            Checks.fail("README.md shows no call: " + line);
        }
    }

    /** Numbers, and bytes by their signs. */
    private static Object[] numbers(String list) {
        String[] told = list.isEmpty() ? new String[0] : list.split(", ");
        Object[] with = new Object[told.length];
        for (int i = 0; i < told.length; i++) {
            with[i] = told[i].matches("'.'") ? (int) told[i].charAt(1) : Integer.parseInt(told[i]);
        }
        return with;
    }
}
