import java.util.Random;

/** Long runs of calls, drawn by fixed seeds, against the model; an argument asks for more runs. */
public final class ModelTest {
    // A text takes up to 33 calls at once, and of an object nothing is promised behind its 512th.
    private static final int RUNS = 80, CALLS = 512 - 33;
    private static final int[] FAR = {Integer.MIN_VALUE, Integer.MIN_VALUE + 1, -100, 100, 1000, 65536,
        Integer.MAX_VALUE - 1, Integer.MAX_VALUE};
    private static final String[] BITS = {"leans", "holds", "minds", ";", "and", "or", "not", "(", ")", "+", "-",
        "*", "<", "=", "lean", "across", "beside", "day", "lookers", "more", "0", "1", "2", "3", "7", "40", "60",
        "9999", "00001", "x", "A", "!", "\t", "leansx", "\n", "  "};

    private final Random r;
    private final LeanedOut x = new LeanedOut();
    private final Model m = new Model();
    private final StringBuilder log = new StringBuilder();
    private int calls = 0;

    private ModelTest(long seed) {
        r = new Random(seed);
    }

    public static void main(String[] args) {
        int runs = args.length > 0 && args[0].matches("[0-9]+") ? Integer.parseInt(args[0]) : RUNS;
        for (int run = 0; run < runs; run++) new ModelTest(run).run(run);
        Checks.end("ModelTest");
    }

    private void run(int run) {
        while (calls < CALLS) {
            String was = one();
            if (was != null) {
                Checks.fail("run " + run + ", call " + calls + ": " + was + "\n  behind" + log);
                return;
            }
        }
        Checks.due("run " + run, 0, 0);
    }

    /** Mostly from 0 to below most, at times one beyond, at times far away. */
    private int upTo(int most) {
        int kind = r.nextInt(60);
        if (kind == 0) return FAR[r.nextInt(FAR.length)];
        if (kind < 3) return -1;
        if (kind < 5) return most;
        return r.nextInt(most);
    }

    private int p() {
        return r.nextInt(8) == 0 ? upTo(7) : r.nextInt(Math.max(1, m.count(0)));
    }

    private int s() {
        return r.nextInt(12) == 0 ? upTo(4) : r.nextInt(2);
    }

    private String one() {
        int call = r.nextInt(46);
        if (call >= 38) return changing();
        return call < 20 ? asking(call) : others(call);
    }

    private String same(String call, long got, long want) {
        calls++;
        if (log.length() > 6000) log.delete(0, 3000);
        log.append("\n    ").append(call).append(" ").append(want);
        return got == want ? null : call + " answered " + got + ", the model says " + want;
    }

    private String asking(int call) {
        int a = s(), b = p(), c = upTo(2), d = upTo(10);
        switch (call) {
            case 0: a = upTo(6); return same("count " + a, x.count(a), m.count(a));
            case 1: a = upTo(3); return same("asks " + a + " " + b, x.asks(a, b), m.asks(a, b));
            case 2: return same("told " + b + " " + d, x.told(b, d), m.told(b, d));
            case 3: a = upTo(5); return same("street " + a, x.street(a), m.street(a));
            case 4: return same("chain " + b, x.chain(b), m.chain(b));
            case 5: a = upTo(41); d = upTo(16); return same("run " + a + " " + d, x.run(a, d), m.run(a, d));
            case 6: return same("keeps " + b, x.keeps(b), m.keeps(b));
            case 7: return same("turn " + c, x.turn(c), m.turn(c));
            case 8: return same("safe " + b + " " + c, x.safe(b, c), m.safe(b, c));
            case 9: a = upTo(41); return same("warn " + a + " " + c, x.warn(a, c), m.warn(a, c));
            case 10: a = upTo(2); return same("untangle " + a + " " + c, x.untangle(a, c), m.untangle(a, c));
            case 11: return same("strain " + b + " " + c, x.strain(b, c), m.strain(b, c));
            case 12: return same("judge " + a + " " + b, x.judge(a, b), m.judge(a, b));
            case 13: return same("kinds " + a + " " + b + " " + c, x.kinds(a, b, c), m.kinds(a, b, c));
            case 14: return same("windows " + a + " " + b + " " + c, x.windows(a, b, c), m.windows(a, b, c));
            case 15: return same("leans " + a + " " + b + " " + c, x.leans(a, b, c), m.leans(a, b, c));
            case 16: return same("whose " + a, x.whose(a), m.whose(a));
            case 17: return same("laws " + a + " " + b, x.laws(a, b), m.laws(a, b));
            case 18: a = upTo(100000); return same("drawn " + a + " " + c, x.drawn(a, c), m.drawn(a, c));
            default: return askOdds(upTo(100000), r.nextInt(6) == 0 ? upTo(41) : 1 + r.nextInt(12), b, c);
        }
    }

    private String askOdds(int seed, int seeds, int p, int part) {
        String call = "odds " + seed + " " + seeds + " " + p + " " + part;
        return same(call, x.odds(seed, seeds, p, part), m.odds(seed, seeds, p, part));
    }

    private String others(int call) {
        int a = s(), b = p(), c = upTo(21);
        switch (call) {
            case 20: c = upTo(1000); return same("dawn " + c, x.dawn(c), m.dawn(c));
            case 21: c = upTo(7); return same("force " + c, x.force(c), m.force(c));
            case 22: case 23: return come();
            case 24: case 25: return move();
            case 26: return same("day", x.day(), m.day());
            case 27: return same("callIn " + b, x.callIn(b), m.callIn(b));
            case 28: c = upTo(20); return same("crane " + b + " " + c, x.crane(b, c), m.crane(b, c));
            case 29: case 30: return same("film " + a + " " + b + " " + c, x.film(a, b, c), m.film(a, b, c));
            case 31: return r.nextInt(3) == 0 ? same("image", x.image(), m.image()) : null;
            case 32: return r.nextInt(2) == 0 ? same("back", x.back(), m.back()) : null;
            case 33: {
                int sort = r.nextInt(4) == 0 ? upTo(4) - 1 : r.nextInt(3), n = r.nextInt(5) == 0 ? upTo(42) : c;
                return same("sheet " + a + " " + sort + " " + n, x.sheet(a, sort, n), m.sheet(a, sort, n));
            }
            case 34: case 35: return write(a);
            case 36: {
                int other = s(), i = upTo(9), j = upTo(9), n = upTo(9);
                String what = "copy " + a + " " + i + " " + other + " " + j + " " + n;
                return same(what, x.copy(a, i, other, j, n), m.copy(a, i, other, j, n));
            }
            default: {
                int i = upTo(12), k = upTo(7);
                return same("taken " + i + " " + k, x.taken(i, k), m.taken(i, k));
            }
        }
    }

    private String changing() {
        switch (r.nextInt(4)) {
            case 0: return read(r.nextInt(3) == 0 ? anyText() : text());
            case 1: {
                int a = s(), sort = r.nextInt(5) == 0 ? upTo(3) : r.nextInt(3), from = upTo(9), n = upTo(7);
                String what = "peopleBy " + a + " " + sort + " " + from + " " + n;
                return same(what, x.peopleBy(a, sort, from, n), m.peopleBy(a, sort, from, n));
            }
            case 2: {
                int n = upTo(6), a = upTo(256), b = upTo(256);
                if (r.nextInt(6) != 0) return null;
                return same("feed " + n + " " + a + " " + b, x.feed(n, a, b, 1, 2, b), m.feed(n, a, b, 1, 2, b));
            }
            default: return r.nextInt(3) == 0 ? come() : move();
        }
    }

    private String come() {
        int k = r.nextInt(10) == 0 ? upTo(60) : r.nextInt(60), w = windows();
        return same("person " + k + " " + w, x.person(k, w), m.person(k, w));
    }

    private int windows() {
        if (r.nextInt(10) == 0) return upTo(2000);
        int a = r.nextInt(10), b = 10 + r.nextInt(10);
        if (r.nextInt(2) == 0) b = 10 + Math.min(9, a + r.nextInt(2));
        return r.nextBoolean() ? 100 * a + b : 100 * b + a;
    }

    private String move() {
        int p = p(), what = upTo(3), v = r.nextInt(2) == 0 ? upTo(20) : upTo(100);
        return same("put " + p + " " + what + " " + v, x.put(p, what, v), m.put(p, what, v));
    }

    private String write(int s) {
        int i = upTo(8), v = r.nextInt(2) == 0 ? windows() : upTo(100);
        return same("cell " + s + " " + i + " " + v, x.cell(s, i, v), m.cell(s, i, v));
    }

    /** To the tape by fives, and read. */
    private String read(String s) {
        if (m.count(3) == 6 && r.nextInt(4) != 0) return null;
        for (int i = 0; i < s.length(); i += 5) {
            int n = Math.min(5, s.length() - i);
            int[] b = new int[5];
            for (int k = 0; k < n; k++) b[k] = s.charAt(i + k);
            String was = same("feed", x.feed(n, b[0], b[1], b[2], b[3], b[4]), m.feed(n, b[0], b[1], b[2], b[3], b[4]));
            if (was != null) return was;
        }
        return same("text \"" + s + "\"", x.text(), m.text());
    }

    private String text() {
        String s = "leans " + e(3) + ";holds " + (r.nextBoolean() ? "" : "30+") + e(3) + ";minds " + e(2) + ";";
        return r.nextInt(4) != 0 ? s : s.substring(0, r.nextInt(s.length())) + BITS[r.nextInt(BITS.length)]
            + s.substring(r.nextInt(s.length()));
    }

    private String e(int deep) {
        if (deep == 0) return BITS[14 + r.nextInt(13)];
        switch (r.nextInt(12)) {
            case 0: return e(deep - 1) + " and " + e(deep - 1);
            case 1: return e(deep - 1) + " or " + e(deep - 1);
            case 2: return "not " + e(deep - 1);
            case 3: return e(deep - 1) + "<" + e(deep - 1);
            case 4: return e(deep - 1) + "=" + e(deep - 1);
            case 5: return e(deep - 1) + "+" + e(deep - 1);
            case 6: return e(deep - 1) + "-" + e(deep - 1);
            case 7: return e(deep - 1) + "*" + e(deep - 1);
            case 8: return "-" + e(deep - 1);
            case 9: case 10: return "(" + e(deep - 1) + ")";
            default: return e(0);
        }
    }

    private String anyText() {
        StringBuilder s = new StringBuilder("leans ");
        int n = r.nextInt(14);
        boolean brackets = r.nextBoolean();
        for (int i = 0; i < n; i++) {
            if (brackets && r.nextInt(3) != 0) {
                s.append(r.nextInt(3) == 0 ? "not " : r.nextBoolean() ? "(" : "-");
            } else {
                s.append(BITS[r.nextInt(BITS.length)]);
            }
            if (r.nextBoolean()) s.append(' ');
        }
        return s.toString();
    }
}
