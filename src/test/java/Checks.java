/** What all tests share: counting wrong answers, feeding a text. */
final class Checks {
    private static int wrong = 0, asked = 0;

    private Checks() { }

    static void due(String call, long got, long want) {
        asked++;
        if (got == want) return;
        wrong++;
        if (wrong <= 40) System.out.println(call + " answered " + got + ", due is " + want);
    }

    static void fail(String why) {
        asked++;
        wrong++;
        if (wrong <= 40) System.out.println(why);
    }

    static void end(String name) {
        System.out.println(name + ": " + asked + " asked, " + wrong + " wrong");
        if (wrong != 0) System.exit(1);
    }

    /** Feeds the tape, by fives as far as they go. */
    static void tape(LeanedOut x, String s) {
        int at = x.count(5);
        for (int i = 0; i < s.length(); i += 5) {
            int n = Math.min(5, s.length() - i);
            int[] b = new int[5];
            for (int k = 0; k < n; k++) b[k] = s.charAt(i + k);
            at += n;
            due("feed of \"" + s + "\" at " + i, x.feed(n, b[0], b[1], b[2], b[3], b[4]), at);
        }
    }

    static int text(LeanedOut x, String s) {
        tape(x, s);
        return x.text();
    }

    /** A new object under a law of its own. */
    static LeanedOut under(String s) {
        LeanedOut x = new LeanedOut();
        due("text \"" + s + "\"", text(x, s), 1);
        due("force(1)", x.force(1), 0);
        return x;
    }

    static void row(LeanedOut x, int s, int sort, int... cells) {
        due("sheet", x.sheet(s, sort, cells.length), 1);
        for (int i = 0; i < cells.length; i++) due("cell", x.cell(s, i, cells[i]), 1);
    }
}
