import java.lang.reflect.InvocationTargetException;
import java.lang.reflect.Method;
import java.lang.reflect.Modifier;
import java.util.ArrayList;
import java.util.Arrays;
import java.util.Comparator;
import java.util.List;
import java.util.Random;

/** No call throws, whatever its arguments are, in whatever state; and the face is the document's. */
public final class AnyArgumentsTest {
    private static final String FACE = "asks(int,int) back() callIn(int) cell(int,int,int) chain(int)"
        + " copy(int,int,int,int,int) count(int) crane(int,int) dawn(int) day() drawn(int,int)"
        + " feed(int,int,int,int,int,int) film(int,int,int) force(int) image() judge(int,int) keeps(int)"
        + " kinds(int,int,int) laws(int,int) leans(int,int,int) odds(int,int,int,int) peopleBy(int,int,int,int)"
        + " person(int,int) put(int,int,int) run(int,int) safe(int,int) sheet(int,int,int) strain(int,int)"
        + " street(int) taken(int,int) text() told(int,int) turn(int) untangle(int,int) warn(int,int) whose(int)"
        + " windows(int,int,int)";
    private static final int[] EDGES = {Integer.MIN_VALUE, Integer.MIN_VALUE + 1, -1000, -101, -2, -1, 40, 41, 99,
        100, 159, 160, 255, 256, 999, 1000, 2000, 99999, 100000, Integer.MAX_VALUE - 40, Integer.MAX_VALUE};

    public static void main(String[] args) throws Exception {
        List<Method> all = face();
        for (int run = 0; run < 300; run++) calls(all, new Random(run));
        Checks.end("AnyArgumentsTest");
    }

    private static List<Method> face() {
        List<Method> all = new ArrayList<>();
        List<String> names = new ArrayList<>();
        for (Method m : LeanedOut.class.getDeclaredMethods()) {
            if (Modifier.isPrivate(m.getModifiers())) continue;
            Checks.due(m + " is public", Modifier.isPublic(m.getModifiers()) ? 1 : 0, 1);
            boolean wide = m.getName().equals("strain") || m.getName().equals("odds");
            Checks.due(m + " answers", m.getReturnType() == (wide ? long.class : int.class) ? 1 : 0, 1);
            all.add(m);
            names.add(m.getName() + Arrays.toString(m.getParameterTypes()).replace(" ", "").replace('[', '(')
                .replace(']', ')'));
        }
        names.sort(Comparator.naturalOrder());
        all.sort(Comparator.comparing(Method::getName));
        if (!String.join(" ", names).equals(FACE)) Checks.fail("the face is " + names);
        Checks.due("constructors", LeanedOut.class.getConstructors().length, 1);
        Checks.due("public fields", LeanedOut.class.getFields().length, 5);
        return all;
    }

    private static void calls(List<Method> all, Random r) throws IllegalAccessException {
        LeanedOut x = new LeanedOut();
        for (int c = 0; c < 512; c++) {
            Method m = all.get(r.nextInt(all.size()));
            Object[] with = new Object[m.getParameterCount()];
            for (int i = 0; i < with.length; i++) {
                with[i] = r.nextInt(5) == 0 ? EDGES[r.nextInt(EDGES.length)] : r.nextInt(r.nextBoolean() ? 7 : 25);
            }
            if (r.nextInt(3) == 0) {
                x.person(r.nextInt(60), r.nextInt(2000));
            }
            try {
                m.invoke(x, with);
            } catch (InvocationTargetException e) {
                Checks.fail(m.getName() + Arrays.toString(with) + " threw " + e.getCause());
            }
        }
        Checks.due("a run", 0, 0);
    }
}
