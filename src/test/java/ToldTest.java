/** Promises 23 to 33: told days, cranes by lots, images. */
public final class ToldTest {
    private static final int[] WRONG = {-1, 6, 100, Integer.MIN_VALUE, Integer.MAX_VALUE};
    private static final int[] NEITHER = {-1, 2, Integer.MIN_VALUE, Integer.MAX_VALUE};
    private static final int[] NO_SHEET = {-1, 4, Integer.MIN_VALUE, Integer.MAX_VALUE};

    public static void main(String[] args) {
        judge();
        kinds();
        windows();
        leans();
        whose();
        laws();
        refusals();
        film();
        drawn();
        odds();
        image();
        Checks.end("ToldTest");
    }

    private static void due(String call, long got, long want) {
        Checks.due(call, got, want);
    }

    private static void judge() {
        LeanedOut x = Checks.under("leans 10; holds 35; minds 1;");
        x.person(0, 15);
        Checks.row(x, 0, 0, 10, 20, 30, 40, 40, 40);
        due("P23 alike", x.judge(0, 0), -1);
        x.cell(0, 5, 41);
        due("P23 the last", x.judge(0, 0), 5);
        x.cell(0, 0, 11);
        due("P23 the first", x.judge(0, 0), 0);
        Checks.row(x, 1, 2, 10, 20, 30 + 256);
        due("P23 ints are as they are", x.judge(1, 0), 2);
        Checks.row(x, 1, 0, 10, 20, 30 + 256);
        due("P23 bytes", x.judge(1, 0), -1);
        Checks.row(x, 2, 1);
        due("P23 tells nothing", x.judge(2, 0), -1);
        Checks.row(x, 2, 1, 10, 20, 30, 40, 40, 40, 40, 40, 40, 40, 40, 40, 40, 40, 40, 40, 40, 40, 40, 40);
        due("P23 twenty", x.judge(2, 0), -1);
        x.dawn(999);
        due("P23 past the last day", x.judge(2, 0), -1);
        due("P23 in thought", x.told(0, 2), 0);
    }

    private static void refusals() {
        LeanedOut x = new LeanedOut();
        x.person(0, 15);
        x.sheet(1, 0, 21);
        x.sheet(2, 0, 20);
        for (int bad : NO_SHEET) same(x, bad, 0, 0, -2);
        same(x, 0, 0, 0, -11);
        same(x, 0, 9, 9, -11);
        same(x, 1, 0, 0, -2);
        same(x, 1, 9, 9, -2);
        for (int bad : WRONG) {
            due("judge p", x.judge(2, bad), -5);
            due("kinds p", x.kinds(2, bad, 9), -5);
            due("windows p", x.windows(2, bad, 9), -5);
            due("leans p", x.leans(2, bad, 9), -5);
            due("laws p", x.laws(2, bad), -5);
        }
        for (int bad : NEITHER) {
            due("kinds sort", x.kinds(2, 0, bad), -7);
            due("windows sort", x.windows(2, 0, bad), -7);
            due("leans what", x.leans(2, 0, bad), -7);
        }
    }

    private static void same(LeanedOut x, int s, int p, int sort, int want) {
        due("judge sheet", x.judge(s, p), want);
        due("kinds sheet", x.kinds(s, p, sort), want);
        due("windows sheet", x.windows(s, p, sort), want);
        due("leans sheet", x.leans(s, p, sort), want);
        due("whose sheet", x.whose(s), want);
        due("laws sheet", x.laws(s, p), want);
    }

    private static void kinds() {
        LeanedOut x = Checks.under("leans 4; holds 9; minds 1;");
        x.dawn(1);
        x.person(13, 15);
        Checks.row(x, 0, 0, 4, 8);
        due("P24 person, lover, tenant", x.kinds(0, 0, 0), 1 | 2 | 4);
        Checks.row(x, 0, 0, 4, 8, 12, 12);
        due("P24 not a tenant: its rail holds", x.kinds(0, 0, 0), 1 | 2);
        Checks.row(x, 0, 0, 8, 8);
        due("P24 child", x.kinds(0, 0, 0), 8);
        Checks.row(x, 0, 0, 0, 0, 0, 3, 0);
        due("P24 duster", x.kinds(0, 0, 0), 0);
        Checks.row(x, 0, 0, 0, 0, 0, 0, 0);
        due("P24 plaster", x.kinds(0, 0, 0), 32);
        x.dawn(2);
        Checks.row(x, 0, 0, 0, 0, 0, 3, 0);
        due("P24 duster", x.kinds(0, 0, 0), 16);
        due("P24 more, unmet", x.kinds(0, 0, 1), 0);
        x.person(0, 1500);
        Checks.row(x, 0, 1, 7);
        due("P24 more, met", x.kinds(0, 0, 1), 1 << 3);
        Checks.row(x, 0, 1, 9);
        due("P24 more, met", x.kinds(0, 0, 1), 1 << 5);
        due("P24 more of a person", x.kinds(0, 1, 1), 0);
        Checks.row(x, 0, 1, 4);
        due("P24 more of a person", x.kinds(0, 1, 1), 1023);
        due("P24 in thought", x.told(0, 3), 1);
        due("P24 in thought", x.told(0, 4), 3);
        Checks.row(x, 0, 1);
        due("P24 all", x.kinds(0, 0, 0), 63);
    }

    private static void windows() {
        LeanedOut x = Checks.under("leans across; holds 60; minds 1;");
        x.person(0, 15);
        x.person(0, 717);
        Checks.row(x, 0, 0, 2);
        due("P25 windows", x.windows(0, 0, 0), 1 << 3);
        due("P25 looks", x.windows(0, 0, 1), 1 << 12);
        Checks.row(x, 0, 0, 4);
        due("P25 windows", x.windows(0, 0, 0), 1 << 1 | 1 << 9);
        Checks.row(x, 0, 0, 5);
        due("P25 its own", x.windows(0, 0, 0), 1);
        due("P25 its own", x.windows(0, 0, 1), 1 << 15);
        Checks.row(x, 0, 2);
        due("P25 all but somebody's", x.windows(0, 0, 0), 1023 - (1 << 7));
        due("P25 all of the other side", x.windows(0, 0, 1), 1023 << 10);
        x.person(0, 1204);
        due("P25 from there", x.windows(0, 2, 0), 1023 << 10);
        due("P25 from there", x.windows(0, 2, 1), 1023);
        due("P25 in thought", x.told(0, 0), 0);
        due("P25 in thought", x.told(0, 1), 15);
    }

    private static void leans() {
        LeanedOut x = Checks.under("leans 3; holds 99; minds 1;");
        x.person(0, 15);
        x.put(0, 2, 50);
        Checks.row(x, 0, 0, 20, 23);
        due("P26 one", x.leans(0, 0, 0), 1);
        due("P26 least", x.leans(0, 0, 1), 17);
        Checks.row(x, 0, 0, 99, 99);
        due("P26 up to the bound", x.leans(0, 0, 0), 4);
        due("P26 up to the bound", x.leans(0, 0, 1), 96);
        Checks.row(x, 0, 0, 2);
        due("P26 none", x.leans(0, 0, 0), 0);
        due("P26 none", x.leans(0, 0, 1), -1);
        Checks.row(x, 0, 0);
        due("P26 all", x.leans(0, 0, 0), 100);
        due("P26 all", x.leans(0, 0, 1), 0);
        due("P26 in thought", x.told(0, 2), 50);
        // Of one who is kept LEAN stays.
        LeanedOut y = Checks.under("leans 3; holds 40; minds 1;");
        y.person(0, 15);
        y.put(0, 2, 60);
        y.day();
        Checks.row(y, 0, 0, 20, 20);
        due("P26 kept", y.leans(0, 0, 0), 1);
        due("P26 kept", y.leans(0, 0, 1), 20);
    }

    private static void whose() {
        LeanedOut x = Checks.under("leans 1+more; holds 99; minds 1;");
        for (int p = 0; p < 6; p++) x.person(p % 3, 100 * p + 15);
        Checks.row(x, 3, 1, 2, 4, 6);
        due("P27", x.whose(3), 2 | 16);
        Checks.row(x, 3, 1, 2, 4, 7);
        due("P27 none", x.whose(3), 0);
        Checks.row(x, 3, 1);
        due("P27 all", x.whose(3), 63);
        LeanedOut y = new LeanedOut();
        Checks.row(y, 0, 0);
        due("P27 nobody", y.whose(0), 0);
    }

    private static void laws() {
        LeanedOut x = Checks.under("leans 5; holds 9; minds 1;");
        due("text", Checks.text(x, "leans 5; holds 4; minds 1;"), 2);
        due("text", Checks.text(x, "leans 6; holds 9; minds 1;"), 3);
        x.person(0, 10);
        Checks.row(x, 0, 0, 5);
        due("P28", x.laws(0, 0), 1 | 2 | 4);
        Checks.row(x, 0, 0, 5, 10, 10);
        due("P28", x.laws(0, 0), 2);
        Checks.row(x, 0, 0, 5, 5, 5);
        due("P28", x.laws(0, 0), 4);
        Checks.row(x, 0, 0, 6, 12);
        due("P28", x.laws(0, 0), 8);
        Checks.row(x, 0, 0, 7);
        due("P28", x.laws(0, 0), 0);
        Checks.row(x, 0, 0);
        due("P28 all", x.laws(0, 0), 15);
        Checks.row(x, 0, 0, 0);
        due("P28 none that is none yet", x.laws(0, 0), 0);
        for (int t = 4; t < 6; t++) due("text", Checks.text(x, "leans 0; holds 9; minds 1;"), t);
        due("P28 six", x.laws(0, 0), 16 | 32);
        due("P28 in thought", x.count(4), 1);
        due("P28 in thought", x.asks(0, 0), 5);
    }

    private static void film() {
        LeanedOut x = Checks.under("leans 10; holds 35; minds 1;");
        x.person(0, 15);
        due("P29", x.film(2, 0, 20), 20);
        due("P29", x.judge(2, 0), -1);
        due("P29 bytes", x.peopleBy(2, 0, 0, 0), 0);
        due("P29 as many", x.cell(2, 20, 0), -12);
        due("P29 in thought", x.told(0, 2), 0);
        due("P29 in thought", x.count(2), 0);
        x.cell(2, 2, 31);
        due("P29 told otherwise", x.judge(2, 0), 2);
        due("P29 again", x.film(2, 0, 3), 3);
        due("P29 again", x.judge(2, 0), -1);
        due("P29 as many", x.cell(2, 3, 0), -12);
        due("P29 none", x.film(2, 0, 0), 0);
        due("P29 empty, not missing", x.whose(2), 1);
        for (int bad : NO_SHEET) due("P29 sheet", x.film(bad, 9, 99), -2);
        for (int bad : WRONG) due("P29 p", x.film(3, bad, 99), -5);
        for (int bad : new int[] {-1, 21, Integer.MIN_VALUE, Integer.MAX_VALUE}) due("P29 n", x.film(3, 0, bad), -7);
        due("P29 refused, still missing", x.whose(3), -11);
    }

    private static final long[] LOTS_OF_SEED_0 = {48271, 182605794, 1291394886, 1914720637, 2078669041,
        407355683, 1105902161, 854716505, 564586691, 1596680831, 192302371, 1203428207, 1250328747,
        1738531149, 1271135913, 1098894339};

    private static void drawn() {
        LeanedOut x = Checks.under("leans across; holds 99; minds 1;");
        for (int p = 0; p < 6; p++) x.person(0, p < 3 ? 101 * p + 10 : 1000 + 101 * p);
        for (int p = 0; p < 6; p++) due("P30 straight", x.told(p, 7), 0);
        int[] look = {0, 1, 2, 3, 4, 5};
        int[] lean = new int[6];
        for (int d = 0; d < 8; d++) {
            look[(int) (LOTS_OF_SEED_0[2 * d] % 6)] = (int) (LOTS_OF_SEED_0[2 * d + 1] % 10);
            for (int q = 0; q < 6; q++) lean[q] += Math.abs(q - look[q]);
        }
        int most = 0, over = 0;
        for (int q = 0; q < 6; q++) most = Math.max(most, lean[q]);
        for (int q = 0; q < 6; q++) if (lean[q] == most) over |= 1 << q;
        due("P30 some lean", most > 0 ? 1 : 0, 1);
        due("P30 kept", x.drawn(0, 0), 0);
        due("text", Checks.text(x, "leans across; holds " + (most - 1) + "; minds 1;"), 2);
        x.force(2);
        due("P30 kept", x.drawn(0, 0), over);
        due("P30 in thought", x.count(2) + x.count(1), 0);
        for (int p = 0; p < 6; p++) due("P30 in thought", x.told(p, 7), 0);
        for (int over1 = 1; over1 < 60; over1++) {
            LeanedOut y = Checks.under("leans across; holds " + over1 + "; minds 1;");
            // At the street's other end places stay as they are; window 10 is of the second side.
            for (int p = 0; p < 6; p++) y.person(0, 1000 + 101 * p);
            int bits = 0;
            for (int q = 0; q < 6; q++) if (lean[q] > over1) bits |= 1 << q;
            due("P30 over " + over1, y.drawn(0, 0), bits);
        }
        LeanedOut eight = Checks.under("leans 1; holds 7; minds 1;");
        eight.person(0, 15);
        due("P30 eight days", eight.drawn(5, 0), 1);
        due("text", Checks.text(eight, "leans 1; holds 8; minds 1;"), 2);
        eight.force(2);
        due("P30 eight days, no more", eight.drawn(5, 0), 0);
        for (int bad : new int[] {-1, 100000, Integer.MIN_VALUE, Integer.MAX_VALUE}) {
            due("P30 seed", x.drawn(bad, 0), -2);
        }
        for (int bad : NEITHER) due("P30 what", x.drawn(0, bad), -2);
        drawnMet();
    }

    /** Two alone: a lot of another number turns nobody. At last they are met, or not. */
    private static void drawnMet() {
        int never = 0;
        for (int seed = 0; seed < 100000; seed += 333) {
            LeanedOut x = new LeanedOut();
            x.person(0, 10);
            x.person(0, 1000);
            int[] look = {0, 0};
            long lot = seed + 1;
            for (int d = 0; d < 8; d++) {
                lot = lot * 48271 % 2147483647L;
                int p = (int) (lot % 6);
                lot = lot * 48271 % 2147483647L;
                if (p < 2) look[p] = (int) (lot % 10);
            }
            boolean met = look[0] == 0 && look[1] == 0;
            if (!met) never++;
            due("P30 met, seed " + seed, x.drawn(seed, 1), met ? 1 : 0);
        }
        due("P30 some are, some aren't", never > 0 && never < 300 ? 1 : 0, 1);
    }

    private static void odds() {
        LeanedOut x = Checks.under("leans across; holds 12; minds 1;");
        x.person(0, 10);
        x.person(0, 1909);
        int many = 0;
        for (int i = 0; i < 40; i++) many += x.drawn(99960 + i, 0) & 1;
        due("P31 some", many > 0 && many < 40 ? 1 : 0, 1);
        int a = many, b = 40;
        while (b != 0) {
            int t = a % b;
            a = b;
            b = t;
        }
        due("P31 above", x.odds(99960, 40, 0, 0), many / a);
        due("P31 below", x.odds(99960, 40, 0, 1), 40 / a);
        due("P31 one seed", x.odds(7, 1, 1, 0), x.drawn(7, 0) >> 1);
        due("P31 one seed", x.odds(7, 1, 1, 1), 1);
        due("P31 past the last seed", x.odds(99999, 40, 0, 1) > 0 ? 1 : 0, 1);
        x.put(0, 2, 99);
        x.day();
        due("P31 kept already", x.odds(3, 39, 0, 0), 1);
        due("P31 kept already", x.odds(3, 39, 0, 1), 1);
        for (int bad : new int[] {-1, 100000, Integer.MIN_VALUE, Integer.MAX_VALUE}) {
            due("P31 seed", x.odds(bad, 1, 0, 0), LeanedOut.NO);
        }
        for (int bad : new int[] {-1, 0, 41, Integer.MIN_VALUE, Integer.MAX_VALUE}) {
            due("P31 seeds", x.odds(0, bad, 0, 0), LeanedOut.NO);
        }
        for (int bad : WRONG) due("P31 p", x.odds(0, 1, bad, 0), LeanedOut.NO);
        for (int bad : NEITHER) due("P31 part", x.odds(0, 1, 0, bad), LeanedOut.NO);
        for (int p = 0; p < 2; p++) due("P31 one seed, " + p, x.odds(7, 1, p, 1), 1);
        LeanedOut y = Checks.under("leans 0; holds 1; minds 1;");
        y.person(0, 10);
        due("P31 never", y.odds(0, 40, 0, 0), 0);
        due("P31 never", y.odds(0, 40, 0, 1), 1);
    }

    private static void image() {
        LeanedOut x = Checks.under("leans 40; holds 60; minds 1;");
        due("P33 none", x.back(), -3);
        x.person(13, 15);
        x.person(24, 216);
        x.day();
        due("P32", x.image(), 2);
        x.put(0, 0, 4);
        x.put(0, 1, 19);
        x.put(0, 2, 70);
        x.day();
        x.force(0);
        x.dawn(500);
        x.person(35, 1500);
        due("text", Checks.text(x, "leans 1; holds 2; minds 3;"), 2);
        x.feed(2, 1, 2, 3, 4, 5);
        x.sheet(0, 0, 4);
        due("P33", x.back(), 2);
        int[][] were = {{0, 15, 40, 1, 3, 0}, {2, 16, 40, 2, 4, 0}};
        for (int p = 0; p < 2; p++) {
            for (int what = 0; what < 6; what++) due("P33 told " + what, x.told(p, what), were[p][what]);
        }
        due("P33 day", x.count(2), 1);
        due("P33 law", x.count(4), 1);
        due("P33 who came since is none", x.told(2, 0), -5000);
        due("P33 texts stay", x.count(3), 3);
        due("P33 the tape stays", x.count(5), 2);
        due("P33 sheets stay", x.whose(0), 0);
        due("P8 another comes", x.person(41, 1500), 2);
        due("P8 another comes", x.told(2, 3), 4);
        due("P32 anew", x.image(), 3);
        x.day();
        due("P33 again", x.back(), 3);
        due("P33 again", x.count(1), 0);
        due("P33 again", x.told(2, 3), 4);
        LeanedOut y = new LeanedOut();
        due("P32 nobody", y.image(), 0);
        y.person(0, 15);
        due("P33 nobody", y.back(), 0);
        due("P33 nobody", y.count(0), 0);
    }
}
