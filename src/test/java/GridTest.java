import java.lang.reflect.Method;
import java.util.ArrayList;
import java.util.Arrays;
import java.util.HashMap;
import java.util.List;
import java.util.Map;

/**
 * Every call with all numbers at, in and just out of what the document names, one by one, in scenes that are
 * empty, full, at the first and the last day; each on a fresh object, against the model, and what it leaves.
 */
public final class GridTest {
    private static final int LEAST = Integer.MIN_VALUE, MOST = Integer.MAX_VALUE;
    private static final int SCENES = 6;
    private static final Map<String, Method> METHODS = new HashMap<>();
    private static final List<String> LAST = new ArrayList<>();

    private final LeanedOut x = new LeanedOut();
    private final Model m = new Model();
    private int calls = 0;

    public static void main(String[] args) throws Exception {
        for (int scene = 0; scene < SCENES; scene++) {
            asks(scene);
            changes(scene);
        }
        Checks.end("GridTest");
    }

    private static int[] upTo(int most) {
        int[] all = new int[most + 2];
        for (int i = 0; i < all.length; i++) all[i] = i - 1;
        return all;
    }

    private static int[] of(int... all) {
        return all;
    }

    private static void asks(int scene) throws Exception {
        int[] p = upTo(6), two = upTo(2), s = upTo(4);
        grid(scene, "count", false, of(LEAST, -1, 0, 1, 2, 3, 4, 5, 6, MOST));
        grid(scene, "asks", false, upTo(3), p);
        grid(scene, "told", false, p, upTo(10));
        grid(scene, "street", false, upTo(5));
        grid(scene, "chain", false, p);
        grid(scene, "run", false, of(LEAST, -1, 0, 1, 2, 5, 20, 39, 40, 41, MOST), of(LEAST, -1, 0, 1, 2, 3, 9, 10, 11, 12, 13,
            14, 15, 16, MOST));
        grid(scene, "keeps", false, p);
        grid(scene, "turn", false, two);
        grid(scene, "safe", false, p, two);
        grid(scene, "warn", false, of(LEAST, -1, 0, 1, 2, 5, 20, 39, 40, 41, MOST), two);
        grid(scene, "untangle", false, two, two);
        grid(scene, "strain", false, p, two);
        grid(scene, "judge", false, s, p);
        grid(scene, "kinds", false, s, p, two);
        grid(scene, "windows", false, s, p, two);
        grid(scene, "leans", false, s, p, two);
        grid(scene, "whose", false, s);
        grid(scene, "laws", false, s, p);
        grid(scene, "drawn", false, of(LEAST, -1, 0, 1, 2, 77, 99998, 99999, 100000, MOST), two);
        grid(scene, "odds", false, of(-1, 0, 1, 99999, 100000), of(-1, 0, 1, 2, 39, 40, 41), p, two);
        grid(scene, "taken", false, upTo(12), upTo(7));
    }

    private static void changes(int scene) throws Exception {
        int[] p = upTo(6), s = upTo(4);
        grid(scene, "dawn", true, of(LEAST, -1, 0, 1, 4, 5, 998, 999, 1000, MOST));
        grid(scene, "feed", true, upTo(6), of(-1, 0, ' ', 255, 256), of(-1, '1'), of('1'), of(255, 256), of(0, MOST));
        grid(scene, "text", true);
        grid(scene, "force", true, upTo(6));
        grid(scene, "person", true, of(LEAST, -10, -1, 0, 9, 10, 47, 59, 60, MOST), of(LEAST, -1, 0, 9, 10, 19, 20, 99, 100,
            110, 509, 510, 519, 609, 615, 900, 910, 999, 1000, 1009, 1010, 1509, 1519, 1900, 1909, 1910, 1999, 2000, 2010, MOST));
        grid(scene, "put", true, p, of(0), upTo(20));
        grid(scene, "put", true, p, of(1), upTo(20));
        grid(scene, "put", true, p, of(-1, 2, 3), of(LEAST, -1, 0, 1, 98, 99, 100, MOST));
        grid(scene, "day", true);
        grid(scene, "callIn", true, p);
        grid(scene, "crane", true, p, upTo(20));
        grid(scene, "film", true, s, p, of(LEAST, -1, 0, 1, 2, 19, 20, 21, MOST));
        grid(scene, "image", true);
        grid(scene, "back", true);
        grid(scene, "sheet", true, s, of(LEAST, -2, -1, 0, 1, 2, 3, MOST), of(LEAST, -1, 0, 1, 20, 21, 39, 40, 41, MOST));
        grid(scene, "cell", true, s, of(LEAST, -1, 0, 4, 5, 6, 7, 19, 20, 21, MOST), of(LEAST, -1, 0, 127, 128, 255, 256, 355,
            32767, 32768, 65535, 65536, 65600, MOST));
        grid(scene, "copy", true, upTo(4), of(-1, 0, 1, 5, 6), upTo(4), of(-1, 0, 1, 5, 6), of(-1, 0, 1, 4, 5, 6));
        grid(scene, "peopleBy", true, s, upTo(3), of(LEAST, -1, 0, 1, 2, 5, 6, MOST), upTo(7));
    }

    private static void grid(int scene, String name, boolean changes, int[]... of) throws Exception {
        int all = 1;
        for (int[] o : of) all *= o.length;
        GridTest g = null;
        for (int i = 0; i < all; i++) {
            Object[] arguments = new Object[of.length];
            int rest = i;
            for (int k = 0; k < of.length; k++) {
                arguments[k] = of[k][rest % of[k].length];
                rest /= of[k].length;
            }
            // Of an object nothing is promised behind its 512th call.
            if (g == null || changes || g.calls > 500) g = scene(scene);
            g.same(scene, name, arguments);
            if (changes) g.whatIsLeft(scene, name);
        }
    }

    private long same(int scene, String name, Object... arguments) throws Exception {
        calls++;
        long got = call(x, name, arguments), want = call(m, name, arguments);
        if (!name.equals("told") && !name.equals("count")) {
            LAST.add(name + List.of(arguments));
            if (LAST.size() > 3) LAST.remove(0);
        }
        Checks.due("scene " + scene + ": " + name + List.of(arguments) + (got == want ? "" : " behind " + LAST), got, want);
        return got;
    }

    private static long call(Object of, String name, Object... arguments) throws Exception {
        String key = of.getClass().getName() + "." + name;
        Method method = METHODS.get(key);
        if (method == null) {
            Class<?>[] ints = new Class<?>[arguments.length];
            Arrays.fill(ints, int.class);
            method = of.getClass().getDeclaredMethod(name, ints);
            METHODS.put(key, method);
        }
        return ((Number) method.invoke(of, arguments)).longValue();
    }

    /** All that people are, and what rows tell of the first one. */
    private void whatIsLeft(int scene, String name) throws Exception {
        for (int what = 0; what < 6; what++) same(scene, "count", what);
        for (int p = 0; p < m.count(0); p++) {
            for (int what = 0; what < 10; what++) same(scene, "told", p, what);
        }
        if (!List.of("film", "sheet", "cell", "copy").contains(name)) return;
        for (int s = 0; s < 4; s++) {
            same(scene, "judge", s, 0);
            same(scene, "cell", s, 20, 0);
        }
    }

    private static GridTest scene(int which) throws Exception {
        GridTest g = new GridTest();
        if (which > 0) g.rows(which);
        if (which == 1) g.people(1);
        if (which == 2) g.people(3);
        if (which > 2) g.people(6);
        if (which > 1) g.law();
        if (which == 3) g.same(which, "image");
        if (which == 4) g.keepSome();
        if (which == 5) {
            for (int t = 3; t < 6; t++) g.text("leans 4+beside-lookers;holds 9*" + t + ";minds 1-across;");
            g.same(which, "force", 5);
            g.same(which, "day");
            g.same(which, "image");
            g.same(which, "dawn", 999);
            for (int i = 0; i < 31; i++) g.same(which, "feed", 5, 1, 1, 1, 1, 1);
        }
        return g;
    }

    /** In a row as many twos as it has room for: kinds and windows; some are no one's. */
    private void rows(int which) throws Exception {
        int[] row = {11, 710, 3, 16, 44, 109, 59};
        for (int s = 0; s < 3; s++) {
            same(which, "sheet", s, s, 5 + s);
            for (int i = 0; i < 5 + s; i++) same(which, "cell", s, i, row[i]);
        }
        if (which == 2) same(which, "sheet", 2, 2, 20);
        if (which == 4) same(which, "sheet", 2, 2, 21);
    }

    private void people(int n) throws Exception {
        int[][] all = {{15, 512}, {24, 1205}, {38, 614}, {47, 1006}, {53, 412}, {5, 1404}};
        for (int p = 0; p < n; p++) {
            same(0, "person", all[p][0], all[p][1]);
            same(0, "put", p, 2, 7 * p);
        }
    }

    private void law() throws Exception {
        text("leans 3+2*beside-(across<2)*more;holds 30-5*lookers;minds day-lean;");
        same(0, "force", 1);
        text("leans day<3 or lean=0;holds 60+9*not more;minds -more;");
    }

    private void text(String s) throws Exception {
        for (int i = 0; i < s.length(); i += 5) {
            int[] b = new int[5];
            int n = Math.min(5, s.length() - i);
            for (int k = 0; k < n; k++) b[k] = s.charAt(i + k);
            same(0, "feed", n, b[0], b[1], b[2], b[3], b[4]);
        }
        same(0, "text");
    }

    private void keepSome() throws Exception {
        for (int d = 0; d < 5; d++) same(4, "day");
        same(4, "put", 0, 2, 99);
        same(4, "put", 3, 2, 99);
        same(4, "day");
    }
}
