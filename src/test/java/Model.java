import java.util.ArrayDeque;
import java.util.ArrayList;
import java.util.HashMap;
import java.util.List;
import java.util.Map;
import java.util.function.Predicate;

/**
 * The document told a second time, in another way and with the whole library: texts stay tokens and are
 * worked out anew each time, faults are found by an automaton with a stack, thoughts are whole copies.
 */
final class Model {
    static final long NO = LeanedOut.NO;

    static final class One {
        int kind, more, window, look, lean;
        boolean kept;

        One copy() {
            One o = new One();
            o.kind = kind;
            o.more = more;
            o.window = window;
            o.look = look;
            o.lean = lean;
            o.kept = kept;
            return o;
        }
    }

    static final class World {
        List<One> all = new ArrayList<>();
        int day = 0, law = 0;

        World copy() {
            World w = new World();
            for (One o : all) w.all.add(o.copy());
            w.day = day;
            w.law = law;
            return w;
        }
    }

    private World now = new World(), image = null;
    private final List<Map<String, List<String>>> texts = new ArrayList<>();
    private StringBuilder tape = new StringBuilder();
    private final int[][] sheets = new int[4][];
    private final int[] sorts = new int[4];

    Model() {
        tape.append("leans 5 - across ; holds 60 ; minds beside ;");
        text();
    }

    // ---- texts

    private record Token(String s, int at) { }

    /** Tokens, at last one "" at the size; one that is none is "?". */
    private static List<Token> tokens(String s) {
        List<Token> all = new ArrayList<>();
        int i = 0;
        while (i < s.length()) {
            char c = s.charAt(i);
            int from = i;
            if (c == ' ' || c == '\n') {
                i++;
                continue;
            }
            if (c >= 'a' && c <= 'z') {
                while (i < s.length() && s.charAt(i) >= 'a' && s.charAt(i) <= 'z') i++;
            } else if (c >= '0' && c <= '9') {
                while (i < s.length() && s.charAt(i) >= '0' && s.charAt(i) <= '9') i++;
            } else {
                i++;
            }
            all.add(new Token(s.substring(from, i), from));
        }
        all.add(new Token("", s.length()));
        return all;
    }

    private static final List<String> NAMES = List.of("lean", "across", "beside", "day", "lookers", "more");

    private static boolean operand(String t) {
        return NAMES.contains(t) || t.matches("[0-9]{1,4}");
    }

    /** The place of the fault, or -1. */
    private static int faultOf(List<Token> all) {
        int at = 0;
        for (String key : List.of("leans", "holds", "minds")) {
            if (!all.get(at).s.equals(key)) return all.get(at).at;
            at++;
            ArrayDeque<Character> open = new ArrayDeque<>();
            ArrayDeque<Boolean> compared = new ArrayDeque<>();
            compared.push(false);
            boolean wanted = true, notMay = true;
            while (true) {
                String t = all.get(at).s;
                int place = all.get(at).at;
                if (wanted) {
                    if (operand(t)) {
                        while (!open.isEmpty() && open.peek() == '-') open.pop();
                        wanted = false;
                    } else {
                        boolean opens = t.equals("(") || t.equals("-") || t.equals("not") && notMay;
                        if (!opens || open.size() == 5) return place;
                        open.push(t.charAt(0));
                        notMay = !t.equals("-");
                        if (t.equals("(")) compared.push(false);
                        if (t.equals("not")) setTop(compared, false);
                    }
                } else if (t.equals("+") || t.equals("-") || t.equals("*")) {
                    wanted = true;
                    notMay = false;
                } else if (t.equals("<") || t.equals("=")) {
                    if (compared.peek()) return place;
                    setTop(compared, true);
                    wanted = true;
                    notMay = false;
                } else {
                    while (!open.isEmpty() && open.peek() == 'n') open.pop();
                    if (t.equals("and") || t.equals("or")) {
                        setTop(compared, false);
                        wanted = true;
                        notMay = true;
                    } else if (t.equals(")")) {
                        if (open.isEmpty()) return place;
                        open.pop();
                        compared.pop();
                        while (!open.isEmpty() && open.peek() == '-') open.pop();
                    } else if (t.equals(";") && open.isEmpty()) {
                        at++;
                        break;
                    } else {
                        return place;
                    }
                }
                at++;
            }
        }
        return all.get(at).s.isEmpty() ? -1 : all.get(at).at;
    }

    private static void setTop(ArrayDeque<Boolean> d, boolean v) {
        d.pop();
        d.push(v);
    }

    /** By the loosest sign that stands outside all brackets, the last of them. */
    private static int value(List<String> e, Map<String, Integer> names) {
        int n = e.size();
        int k = lastOf(e, t -> t.equals("or"), false);
        if (k >= 0) return value(e.subList(0, k), names) != 0 | value(e.subList(k + 1, n), names) != 0 ? 1 : 0;
        k = lastOf(e, t -> t.equals("and"), false);
        if (k >= 0) return value(e.subList(0, k), names) != 0 & value(e.subList(k + 1, n), names) != 0 ? 1 : 0;
        if (e.get(0).equals("not")) return value(e.subList(1, n), names) == 0 ? 1 : 0;
        k = lastOf(e, t -> t.equals("<") || t.equals("="), false);
        if (k >= 0) {
            int a = value(e.subList(0, k), names), b = value(e.subList(k + 1, n), names);
            return (e.get(k).equals("<") ? a < b : a == b) ? 1 : 0;
        }
        k = lastOf(e, t -> t.equals("+") || t.equals("-"), true);
        if (k > 0) {
            int a = value(e.subList(0, k), names), b = value(e.subList(k + 1, n), names);
            return e.get(k).equals("+") ? a + b : a - b;
        }
        k = lastOf(e, t -> t.equals("*"), true);
        if (k > 0) return value(e.subList(0, k), names) * value(e.subList(k + 1, n), names);
        if (e.get(0).equals("-")) return 0 - value(e.subList(1, n), names);
        if (e.get(0).equals("(")) return value(e.subList(1, n - 1), names);
        Integer v = names.get(e.get(0));
        return v != null ? v : Integer.parseInt(e.get(0));
    }

    private static int lastOf(List<String> e, Predicate<String> is, boolean binary) {
        int deep = 0;
        for (int i = e.size() - 1; i >= 0; i--) {
            String t = e.get(i);
            if (t.equals(")")) deep++;
            if (t.equals("(")) deep--;
            if (deep == 0 && is.test(t) && (!binary || i > 0 && e.get(i - 1).matches("[a-z0-9]+|[)]"))) return i;
        }
        return -1;
    }

    int feed(int n, int a, int b, int c, int d, int e) {
        int[] all = {a, b, c, d, e};
        if (n < 1 || n > 5) return -2;
        for (int v : all) if (v < 0 || v > 255) return -2;
        if (tape.length() + n > 160) return -4;
        for (int i = 0; i < n; i++) tape.append((char) all[i]);
        return tape.length();
    }

    int text() {
        if (texts.size() == 6) return -4;
        List<Token> all = tokens(tape.toString());
        tape = new StringBuilder();
        int fault = faultOf(all);
        if (fault >= 0) return -100 - fault;
        Map<String, List<String>> text = new HashMap<>();
        List<String> part = null;
        for (Token t : all) {
            if (List.of("leans", "holds", "minds").contains(t.s)) {
                part = new ArrayList<>();
                text.put(t.s, part);
            } else if (!t.s.equals(";") && !t.s.isEmpty()) {
                part.add(t.s);
            }
        }
        texts.add(text);
        return texts.size() - 1;
    }

    // ---- what holds in a world

    private static int side(int w) {
        return w < 10 ? 0 : 1;
    }

    private static int at(World w, int window) {
        for (int p = 0; p < w.all.size(); p++) if (w.all.get(p).window == window) return p;
        return -1;
    }

    private static boolean met(World w, int p) {
        for (One o : w.all) if (o.window == w.all.get(p).look && o.look == w.all.get(p).window) return true;
        return false;
    }

    private static int lookers(World w, int window) {
        return (int) w.all.stream().filter(o -> o.look == window).count();
    }

    private int says(World w, String part, int p) {
        One o = w.all.get(p);
        Map<String, Integer> names = new HashMap<>();
        names.put("lean", o.lean);
        names.put("across", Math.abs(o.window % 10 - o.look % 10));
        names.put("beside", (int) w.all.stream().filter(q -> q != o && q.kept && side(q.window) == side(o.window)
            && Math.abs(q.window % 10 - o.window % 10) == 1).count());
        names.put("day", w.day);
        names.put("lookers", lookers(w, o.window));
        names.put("more", o.more);
        int v = value(texts.get(w.law).get(part), names);
        int least = part.equals("holds") ? 0 : -99;
        return v < least ? least : v > 99 ? 99 : v;
    }

    private int leaning(World w, int p) {
        One o = w.all.get(p);
        int says = says(w, "leans", p);
        boolean met = met(w, p);
        int lover = says + (met ? o.more : 0);
        return switch (o.kind) {
            case 0, 2 -> says;
            case 1 -> lover;
            case 3 -> 2 * lover;
            case 4 -> w.day % 5 == 0 ? o.more : -says;
            default -> met ? -1 : 0;
        };
    }

    private int holding(World w, int p) {
        One o = w.all.get(p);
        int says = says(w, "holds", p);
        return switch (o.kind) {
            case 0, 1 -> says;
            case 2, 4 -> says + 10;
            case 3 -> says / 2;
            default -> o.more;
        };
    }

    private int minding(World w, int p) {
        One o = w.all.get(p);
        int says = says(w, "minds", p);
        return switch (o.kind) {
            case 0, 5 -> says;
            case 1, 3 -> 0;
            case 2 -> 2 * says + o.more;
            default -> (2 * says + o.more) / 3;
        };
    }

    private int pass(World w) {
        int bits = 0;
        for (int p = 0; p < w.all.size(); p++) {
            One o = w.all.get(p);
            if (o.kept) continue;
            o.lean = Math.min(99, Math.max(0, o.lean + leaning(w, p)));
            if (o.lean > holding(w, p)) {
                o.kept = true;
                bits += 1 << p;
            }
        }
        w.day++;
        return bits;
    }

    private World after(World w, int days) {
        World then = w.copy();
        for (int i = 0; i < days; i++) pass(then);
        return then;
    }

    private static int keptBits(World w) {
        int bits = 0;
        for (int p = 0; p < w.all.size(); p++) if (w.all.get(p).kept) bits += 1 << p;
        return bits;
    }

    private static int meetings(World w) {
        int many = 0;
        for (One a : w.all) for (One b : w.all) if (a.look == b.window && b.look == a.window) many++;
        return many / 2;
    }

    private static int crossings(World w) {
        int many = 0;
        for (One a : w.all) {
            for (One b : w.all) {
                int a0 = Math.min(a.window, a.look), a1 = Math.max(a.window, a.look);
                int b0 = Math.min(b.window, b.look), b1 = Math.max(b.window, b.look);
                if (a0 < b0 && a1 > b1) many++;
            }
        }
        return many;
    }

    private boolean none(int p) {
        return p < 0 || p >= now.all.size();
    }

    private boolean beMay(int p, int w) {
        if (w < 0 || w > 19 || side(w) != side(now.all.get(p).window)) return false;
        return at(now, w) == -1 || at(now, w) == p;
    }

    private boolean lookMay(int p, int w) {
        return w >= 0 && w <= 19 && side(w) != side(now.all.get(p).window);
    }

    // ---- the calls

    int count(int what) {
        return switch (what) {
            case 0 -> now.all.size();
            case 1 -> (int) now.all.stream().filter(o -> o.kept).count();
            case 2 -> now.day;
            case 3 -> texts.size();
            case 4 -> now.law;
            case 5 -> tape.length();
            default -> -2;
        };
    }

    int dawn(int v) {
        if (v < 0 || v > 999) return -2;
        int was = now.day;
        now.day = v;
        return was;
    }

    int force(int t) {
        if (t < 0 || t >= texts.size()) return -2;
        int was = now.law;
        now.law = t;
        return was;
    }

    int asks(int part, int p) {
        if (part < 0 || part > 2 || none(p)) return -1000;
        return says(now, List.of("leans", "holds", "minds").get(part), p);
    }

    int person(int kindMore, int windows) {
        if (kindMore < 0 || kindMore > 59 || windows < 0 || windows / 100 > 19 || windows % 100 > 19) return -2;
        One o = new One();
        o.kind = kindMore / 10;
        o.more = kindMore % 10;
        o.window = windows / 100;
        o.look = windows % 100;
        if (side(o.window) == side(o.look) || at(now, o.window) != -1) return -2;
        if (now.all.size() == 6) return -4;
        now.all.add(o);
        return now.all.size() - 1;
    }

    int put(int p, int what, int v) {
        if (none(p)) return -5;
        One o = now.all.get(p);
        int was;
        if (what == 0 && beMay(p, v)) {
            was = o.window;
            o.window = v;
        } else if (what == 1 && lookMay(p, v)) {
            was = o.look;
            o.look = v;
        } else if (what == 2 && v >= 0 && v <= 99) {
            was = o.lean;
            o.lean = v;
        } else {
            return -7;
        }
        return was;
    }

    int told(int p, int what) {
        if (none(p)) return -5000;
        One o = now.all.get(p);
        return switch (what) {
            case 0 -> o.window;
            case 1 -> o.look;
            case 2 -> o.lean;
            case 3 -> o.kind;
            case 4 -> o.more;
            case 5 -> o.kept ? 1 : 0;
            case 6 -> at(now, o.look);
            case 7 -> leaning(now, p);
            case 8 -> holding(now, p);
            case 9 -> minding(now, p);
            default -> -7000;
        };
    }

    int street(int what) {
        int most = -1;
        for (int w = 0; w < 20; w++) {
            if (lookers(now, w) > (most < 0 ? 0 : lookers(now, most))) most = w;
        }
        int unseen = 0;
        for (int p = 0; p < now.all.size(); p++) if (lookers(now, now.all.get(p).window) == 0) unseen += 1 << p;
        return switch (what) {
            case 0 -> meetings(now);
            case 1 -> crossings(now);
            case 2 -> most;
            case 3 -> most < 0 ? 0 : lookers(now, most);
            case 4 -> unseen;
            default -> -2;
        };
    }

    int chain(int p) {
        if (none(p)) return -5;
        int bits = 0;
        for (int q = p; q != -1 && (bits >> q & 1) == 0; q = at(now, now.all.get(q).look)) bits |= 1 << q;
        return bits;
    }

    int day() {
        return now.day == 999 ? -3 : pass(now);
    }

    int callIn(int p) {
        if (none(p)) return -5;
        if (now.all.get(p).kept) return -3;
        return put(p, 2, 0);
    }

    int crane(int p, int w) {
        return none(p) ? -5 : put(p, 1, w);
    }

    int run(int n, int what) {
        if (n < 0 || n > 40) return -100000;
        World w = after(now, n);
        if (what == 0) return keptBits(w);
        int sum = 0;
        for (int p = 0; p < w.all.size(); p++) {
            if (what == 1 && !w.all.get(p).kept) sum += minding(w, p);
            if (what == 2) sum += w.all.get(p).lean;
        }
        if (what == 1 || what == 2) return sum;
        if (what < 10 || none(what - 10)) return -100000;
        return w.all.get(what - 10).lean;
    }

    private int till(World w, int p) {
        for (int d = 0; d <= 60; d++) if (after(w, d).all.get(p).kept) return d;
        return 61;
    }

    int keeps(int p) {
        if (none(p)) return -5;
        int d = till(now, p);
        return d == 61 ? -1 : d;
    }

    int turn(int what) {
        if (what != 0 && what != 1) return -2;
        int best = meetings(now), whom = -1;
        for (int i = 0; i < 100 * now.all.size(); i++) {
            if (!lookMay(i / 100, i % 100)) continue;
            World w = now.copy();
            w.all.get(i / 100).look = i % 100;
            if (meetings(w) > best) {
                best = meetings(w);
                whom = i;
            }
        }
        return what == 0 ? whom : best;
    }

    int safe(int p, int what) {
        if (none(p)) return -5;
        if (what != 0 && what != 1) return -7;
        int best = -1, where = -1;
        for (int v = 0; v < 20; v++) {
            if (!beMay(p, v)) continue;
            World w = now.copy();
            w.all.get(p).window = v;
            int d = till(w, p);
            if (d > best) {
                best = d;
                where = v;
            }
        }
        return what == 0 ? where : best;
    }

    int warn(int n, int what) {
        if (n < 0 || n > 40 || what != 0 && what != 1) return -2;
        int best = Integer.bitCount(keptBits(after(now, n))), whom = -1;
        for (int p = 0; p < now.all.size(); p++) {
            if (now.all.get(p).kept) continue;
            World w = now.copy();
            w.all.get(p).lean = 0;
            int many = Integer.bitCount(keptBits(after(w, n)));
            if (many < best) {
                best = many;
                whom = p;
            }
        }
        return what == 0 ? whom : best;
    }

    int untangle(int side, int what) {
        if (side != 0 && side != 1 || what != 0 && what != 1) return -2;
        List<Integer> who = new ArrayList<>();
        for (int p = 0; p < now.all.size(); p++) if (side(now.all.get(p).window) == side) who.add(p);
        int[] best = {0, Integer.MAX_VALUE};
        ways(who, new ArrayList<>(), best);
        return best[what];
    }

    private void ways(List<Integer> who, List<Integer> given, int[] best) {
        int n = given.size();
        if (n < who.size()) {
            for (int i = 0; i < who.size(); i++) {
                if (given.contains(i)) continue;
                given.add(i);
                ways(who, given, best);
                given.remove(n);
            }
            return;
        }
        World w = now.copy();
        int digits = 0;
        for (int i = 0; i < n; i++) {
            w.all.get(who.get(i)).look = now.all.get(who.get(given.get(i))).look;
            digits = digits * 10 + given.get(i) + 1;
        }
        if (crossings(w) < best[1]) {
            best[0] = digits;
            best[1] = crossings(w);
        }
    }

    private static long part(long above, long below, int part) {
        for (long d = below; d > 1; d--) {
            if (above % d == 0 && below % d == 0) {
                above /= d;
                below /= d;
            }
        }
        return part == 0 ? above : below;
    }

    long strain(int p, int part) {
        if (none(p) || part != 0 && part != 1 || holding(now, p) == 0) return NO;
        return part(now.all.get(p).lean, holding(now, p), part);
    }

    private int refused(int s, int p, int what) {
        if (s < 0 || s > 3) return -2;
        if (sheets[s] == null) return -11;
        if (sheets[s].length > 20) return -2;
        if (none(p)) return -5;
        return what == 0 || what == 1 ? 0 : -7;
    }

    private int first(World w, int s, int p) {
        for (int i = 0; i < sheets[s].length; i++) if (after(w, i + 1).all.get(p).lean != sheets[s][i]) return i;
        return -1;
    }

    int judge(int s, int p) {
        int no = refused(s, p, 0);
        return no != 0 ? no : first(now, s, p);
    }

    int kinds(int s, int p, int sort) {
        int no = refused(s, p, sort);
        if (no != 0) return no;
        int bits = 0;
        for (int v = 0; v < (sort == 0 ? 6 : 10); v++) {
            World w = now.copy();
            if (sort == 0) w.all.get(p).kind = v;
            if (sort == 1) w.all.get(p).more = v;
            if (first(w, s, p) == -1) bits += 1 << v;
        }
        return bits;
    }

    int windows(int s, int p, int sort) {
        int no = refused(s, p, sort);
        if (no != 0) return no;
        int bits = 0;
        for (int v = 0; v < 20; v++) {
            if (sort == 0 && !beMay(p, v) || sort == 1 && !lookMay(p, v)) continue;
            World w = now.copy();
            if (sort == 0) w.all.get(p).window = v;
            if (sort == 1) w.all.get(p).look = v;
            if (first(w, s, p) == -1) bits += 1 << v;
        }
        return bits;
    }

    int leans(int s, int p, int what) {
        int no = refused(s, p, what);
        if (no != 0) return no;
        List<Integer> all = new ArrayList<>();
        for (int v = 0; v < 100; v++) {
            World w = now.copy();
            w.all.get(p).lean = v;
            if (first(w, s, p) == -1) all.add(v);
        }
        return what == 0 ? all.size() : all.isEmpty() ? -1 : all.get(0);
    }

    int whose(int s) {
        int no = refused(s, 0, 0);
        if (no != 0 && no != -5) return no;
        int bits = 0;
        for (int p = 0; p < now.all.size(); p++) if (first(now, s, p) == -1) bits += 1 << p;
        return bits;
    }

    int laws(int s, int p) {
        int no = refused(s, p, 0);
        if (no != 0) return no;
        int bits = 0;
        for (int t = 0; t < texts.size(); t++) {
            World w = now.copy();
            w.law = t;
            if (first(w, s, p) == -1) bits += 1 << t;
        }
        return bits;
    }

    int film(int s, int p, int n) {
        if (s < 0 || s > 3) return -2;
        if (none(p)) return -5;
        if (n < 0 || n > 20) return -7;
        sheets[s] = new int[n];
        sorts[s] = 0;
        for (int i = 0; i < n; i++) sheets[s][i] = after(now, i + 1).all.get(p).lean;
        return n;
    }

    private World craned(int seed) {
        World w = now.copy();
        java.math.BigInteger lot = java.math.BigInteger.valueOf(seed).add(java.math.BigInteger.ONE);
        java.math.BigInteger by = java.math.BigInteger.valueOf(48271), of = java.math.BigInteger.valueOf(2147483647);
        for (int d = 0; d < 8; d++) {
            lot = lot.multiply(by).mod(of);
            int p = lot.mod(java.math.BigInteger.valueOf(6)).intValue();
            lot = lot.multiply(by).mod(of);
            int place = lot.mod(java.math.BigInteger.TEN).intValue();
            if (p < w.all.size()) w.all.get(p).look = place + (w.all.get(p).window < 10 ? 10 : 0);
            pass(w);
        }
        return w;
    }

    int drawn(int seed, int what) {
        if (seed < 0 || seed > 99999 || what != 0 && what != 1) return -2;
        return what == 0 ? keptBits(craned(seed)) : meetings(craned(seed));
    }

    long odds(int seed, int seeds, int p, int part) {
        if (seed < 0 || seed > 99999 || seeds < 1 || seeds > 40 || none(p) || part != 0 && part != 1) return NO;
        int many = 0;
        for (int i = 0; i < seeds; i++) if (craned(seed + i).all.get(p).kept) many++;
        return part(many, seeds, part);
    }

    int image() {
        image = now.copy();
        return now.all.size();
    }

    int back() {
        if (image == null) return -3;
        now = image.copy();
        return now.all.size();
    }

    int sheet(int s, int sort, int n) {
        if (s < 0 || s > 3 || sort < -1 || sort > 2) return -2;
        if (sort == -1) {
            sheets[s] = null;
            return 1;
        }
        if (n > 40) return -2;
        if (n < 0) return -14;
        sheets[s] = new int[n];
        sorts[s] = sort;
        return 1;
    }

    int cell(int s, int i, int v) {
        if (s < 0 || s > 3) return -2;
        if (sheets[s] == null) return -11;
        if (i < 0 || i >= sheets[s].length) return -12;
        sheets[s][i] = sorts[s] == 0 ? (byte) v : sorts[s] == 1 ? (short) v : v;
        return 1;
    }

    int copy(int s, int i, int other, int j, int n) {
        if (s < 0 || s > 3 || other < 0 || other > 3) return -2;
        if (sheets[s] == null || sheets[other] == null) return -11;
        if (sorts[s] != sorts[other]) return -13;
        try {
            System.arraycopy(sheets[s], i, sheets[other], j, n);
        } catch (IndexOutOfBoundsException e) {
            return -12;
        }
        return n;
    }

    int peopleBy(int s, int sort, int from, int n) {
        if (s < 0 || s > 3 || sort < 0 || sort > 2 || n < 0 || n > 6) return -2;
        if (sheets[s] == null) return -11;
        if (sorts[s] != sort) return -13;
        int came = 0;
        try {
            for (int i = 0; i < n; i++) {
                if (person(sheets[s][from + 2 * i], sheets[s][from + 2 * i + 1]) >= 0) came++;
            }
        } catch (IndexOutOfBoundsException e) {
            return -12;
        }
        return came;
    }

    int taken(int i, int kind) {
        if (kind < 0 || kind > 6) return -2;
        if (i < 0 || i > 11) return -12;
        if (none(i % 6)) return -11;
        One o = now.all.get(i % 6);
        if (i > 5) return kind == 6 ? (o.kept ? 1 : 0) : -13;
        List<List<Integer>> is = List.of(List.of(0), List.of(0, 1), List.of(0, 2), List.of(0, 1, 3),
            List.of(0, 2, 4), List.of(0, 5));
        return is.get(o.kind).contains(kind) ? i : -13;
    }
}
