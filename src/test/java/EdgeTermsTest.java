/** The boundary cases that the document's Terms name: windows, people, kinds, days, cranes, images, sheets. */
public final class EdgeTermsTest {
    private static final int LEAST = Integer.MIN_VALUE, MOST = Integer.MAX_VALUE;

    public static void main(String[] args) {
        sides();
        places();
        dayInThought();
        sixPeople();
        lean();
        beside();
        lookers();
        met();
        kinds();
        kindsInADay();
        bounds();
        wraps();
        theDay();
        crossings();
        lots();
        imageKeeps();
        sheetsAtFirst();
        refusalsInTurn();
        Checks.end("EdgeTermsTest");
    }

    private static void due(String words, long got, long want) {
        Checks.due(words, got, want);
    }

    private static void sides() {
        for (int w = 0; w < 20; w++) {
            for (int v = -1; v < 21; v++) {
                LeanedOut x = new LeanedOut();
                boolean other = v >= 0 && v < 20 && w / 10 != v / 10;
                int windows = 100 * w + v;
                // A look of -1 at window 0 is no number of two; at others it is window w - 1's look 99.
                due("LOOK: a WINDOW of the other SIDE: " + windows, x.person(0, windows), other ? 0 : -2);
            }
        }
        LeanedOut x = new LeanedOut();
        x.person(0, 19);
        x.person(0, 1009);
        for (int w = -1; w < 21; w++) {
            due("WINDOWS 0 .. 9 on one SIDE", x.put(0, 0, w), w >= 0 && w < 10 ? Math.max(0, w - 1) : -7);
            due("10 .. 19 on the other", x.put(1, 0, w), w >= 10 && w < 20 ? Math.max(10, w - 1) : -7);
            due("LOOK: of the other SIDE", x.put(0, 1, w), w < 10 || w > 19 ? -7 : w == 10 ? 19 : w - 1);
            due("LOOK: of the other SIDE", x.put(1, 1, w), w < 0 || w > 9 ? -7 : w == 0 ? 9 : w - 1);
        }
    }

    private static void places() {
        int[][] across = {{0, 10, 0}, {0, 19, 9}, {9, 10, 9}, {9, 19, 0}, {4, 15, 1}, {5, 14, 1}, {10, 0, 0},
            {10, 9, 9}, {19, 0, 9}, {19, 9, 0}, {15, 3, 2}, {13, 5, 2}};
        for (int[] a : across) {
            LeanedOut y = Checks.under("leans across; holds 99; minds 0 - across;");
            y.person(0, 100 * a[0] + a[1]);
            due("ACROSS from " + a[0] + " to " + a[1], y.asks(0, 0), a[2]);
            due("ACROSS from " + a[0] + " to " + a[1], y.asks(2, 0), -a[2]);
        }
    }

    private static void dayInThought() {
        LeanedOut x = Checks.under("leans 1 + 10 * (999 < day); holds 60; minds day - 1000;");
        x.person(0, 10);
        x.person(47, 119);
        x.person(50, 214);
        x.dawn(999);
        due("in thought DAY may pass 999: run", x.run(1, 10), 1);
        due("in thought DAY may pass 999: run", x.run(2, 10), 12);
        due("in thought DAY may pass 999: run", x.run(6, 10), 56);
        due("in thought DAY may pass 999: run", x.run(40, 10), 67);
        due("a DUSTER on DAY 1000", x.run(1, 11), 0);
        due("a DUSTER on DAY 1000", x.run(2, 11), 7);
        due("in thought DAY may pass 999: minds", x.run(3, 1), 2 + (2 * 2 + 7) / 3 + 2);
        due("in thought DAY may pass 999: keeps", x.keeps(0), 7);
        due("in thought DAY may pass 999: safe", x.safe(0, 1), 7);
        due("in thought DAY may pass 999: warn", x.warn(7, 1), 1);
        due("in thought DAY may pass 999: film", x.film(0, 0, 20), 20);
        int[] told = {1, 12, 23, 34, 45, 56, 67, 67};
        for (int i = 0; i < told.length; i++) due("film " + i, Reading.cell(x, 2, 0, 0, i), told[i]);
        due("in thought DAY may pass 999: judge", x.judge(0, 0), -1);
        due("in thought DAY may pass 999: drawn", x.drawn(1, 0), 1);
        due("in thought DAY may pass 999: odds", x.odds(1, 40, 0, 0), 1);
        due("truly it doesn't", x.count(2), 999);
        due("truly it doesn't", x.day(), -3);
        due("what no DAY was let pass for", x.told(0, 2), 0);
    }

    private static void sixPeople() {
        LeanedOut x = new LeanedOut();
        for (int p = 0; p < 6; p++) due("PEOPLE are numbered from 0 on", x.person(0, 100 * p + 10), p);
        due("6 at most", x.person(0, 610), -4);
        due("6 at most", x.count(0), 6);
        due("nobody is the seventh", x.told(6, 0), -5000);
        due("KEPT or not (not as one comes)", x.count(1), 0);
        for (int p = 0; p < 6; p++) due("LEAN 0 as one comes", x.told(p, 2), 0);
        // Who comes where somebody was kept is another one.
        LeanedOut y = new LeanedOut();
        y.image();
        y.person(0, 10);
        y.put(0, 2, 99);
        due("kept", y.day(), 1);
        y.back();
        due("comes in that one's stead", y.person(0, 10), 0);
        due("LEAN 0 as one comes", y.told(0, 2), 0);
        due("not KEPT as one comes", y.told(0, 5), 0);
    }

    private static void lean() {
        LeanedOut x = Checks.under("leans 99; holds 99; minds 0;");
        x.person(0, 10);
        due("LEAN 0 .. 99", x.put(0, 2, 1), 0);
        due("at the bound it is not more than 99", x.day(), 0);
        due("else the bound: 100 is 99", x.told(0, 2), 99);
        due("again", x.day(), 0);
        due("else the bound", x.told(0, 2), 99);
        LeanedOut y = Checks.under("leans -99; holds 0; minds 0;");
        y.person(0, 10);
        y.put(0, 2, 98);
        due("less than none is none, and none is not more than 0", y.day(), 0);
        due("else the bound: -1 is 0", y.told(0, 2), 0);
        y.put(0, 2, 99);
        due("99 less 99", y.day(), 0);
        due("99 less 99", y.told(0, 2), 0);
    }

    /** One at each window from 0 on, and one over there; all but the first asked are kept. */
    private static void beside() {
        LeanedOut x = Checks.under("leans beside; holds 99; minds 0;");
        int[] at = {0, 1, 2, 9, 10, 19};
        for (int p = 0; p < 6; p++) x.person(50, 100 * at[p] + (at[p] < 10 ? 15 : 5));
        for (int p = 0; p < 6; p++) due("BESIDE: KEPT ones alone", x.asks(0, p), 0);
        for (int p = 0; p < 6; p++) if (p != 1) x.put(p, 2, 1);
        due("all but the second", x.day(), 63 - 2);
        due("BESIDE: 1 more and 1 less", x.asks(0, 1), 2);
        int[] now = {0, 2, 0, 0, 0, 0};
        for (int p = 0; p < 6; p++) due("BESIDE at window " + at[p], x.asks(0, p), now[p]);
        x.put(1, 2, 1);
        due("the second", x.day(), 2);
        int[] then = {1, 2, 1, 0, 0, 0};
        for (int p = 0; p < 6; p++) due("BESIDE at window " + at[p] + ", oneself KEPT", x.asks(0, p), then[p]);
        x.put(2, 0, 8);
        due("9 and 8", x.asks(0, 3), 1);
        due("9 isn't beside 10, 0 isn't beside 9 or 19", x.asks(0, 4) + 10 * x.asks(0, 5), 0);
        due("0 and 1", x.asks(0, 0), 1);
        x.put(1, 0, 2);
        due("2 isn't beside 0", x.asks(0, 0), 0);
    }

    private static void lookers() {
        LeanedOut x = Checks.under("leans lookers; holds 99; minds 0;");
        x.person(0, 10);
        due("LOOKERS: none", x.asks(0, 0), 0);
        for (int p = 1; p < 6; p++) {
            x.person(50, 1000 + 100 * p);
            due("LOOKERS", x.asks(0, 0), p);
        }
        x.put(1, 2, 1);
        due("one of them is KEPT", x.day(), 2);
        due("LOOKERS who are KEPT look on", x.asks(0, 0), 5);
        x.put(0, 0, 1);
        due("LOOKERS of one's WINDOW, not of one", x.asks(0, 0), 0);
        due("nobody is there, and five look", x.street(2) * 10 + x.street(3), 5);
    }

    private static void met() {
        LeanedOut x = Checks.under("leans 1; holds 98; minds 0;");
        x.person(15, 10);
        due("MET: somebody is at one's LOOK", x.told(0, 7), 1);
        x.person(0, 1001);
        due("MET: whose LOOK is one's WINDOW", x.told(0, 7), 1);
        x.put(1, 1, 0);
        due("MET", x.told(0, 7), 6);
        x.put(1, 2, 99);
        due("the other one is KEPT", x.day(), 2);
        due("MET by one who is KEPT", x.told(0, 7), 6);
        x.put(0, 2, 99);
        due("KEPT", x.day(), 1);
        due("how far one LEANS, KEPT or not", x.told(0, 7), 6);
        due("twos who are KEPT", x.street(0), 1);
    }

    private static int[] of(int kindMore, String law, boolean isMet, int day) {
        LeanedOut x = Checks.under(law);
        x.person(kindMore, 10);
        if (isMet) x.person(0, 1000);
        x.dawn(day);
        return new int[] {x.told(0, 7), x.told(0, 8), x.told(0, 9)};
    }

    private static void kind(String words, int kindMore, String law, boolean isMet, int day, int... want) {
        int[] got = of(kindMore, law, isMet, day);
        for (int i = 0; i < 3; i++) due(words + ", " + i, got[i], want[i]);
    }

    private static void kinds() {
        String high = "leans 99; holds 99; minds 99;", low = "leans -99; holds 0; minds -99;";
        kind("a LOVER's leaning has no bound", 19, high, true, 1, 108, 99, 0);
        kind("a LOVER, MORE 0", 10, high, true, 1, 99, 99, 0);
        kind("a LOVER, not MET", 19, high, false, 1, 99, 99, 0);
        kind("a TENANT's rail, minding have no bound", 29, high, true, 1, 99, 109, 207);
        kind("a TENANT of a low law", 29, low, true, 1, -99, 10, -189);
        kind("a TENANT, MORE 0", 20, low, true, 1, -99, 10, -198);
        kind("a CHILD's leaning has no bound; half, cut", 39, high, true, 1, 216, 49, 0);
        kind("a CHILD of a low law", 39, low, true, 1, -180, 0, 0);
        kind("a CHILD, not MET", 39, low, false, 1, -198, 0, 0);
        kind("a CHILD: half of 1 is 0", 30, "leans 0; holds 1; minds 1;", false, 0, 0, 0, 0);
        kind("a CHILD: half of 3 is 1", 30, "leans 0; holds 3; minds 1;", false, 0, 0, 1, 0);
        kind("a DUSTER: DAY modulo 5 is 0", 49, high, true, 0, 9, 109, 69);
        kind("a DUSTER: DAY modulo 5 is 4", 49, high, true, 4, -99, 109, 69);
        kind("a DUSTER: DAY modulo 5 is 0", 40, low, true, 5, 0, 10, -66);
        kind("a DUSTER: DAY modulo 5 is 1", 40, low, true, 6, 99, 10, -66);
        kind("a DUSTER: DAY 995", 43, low, false, 995, 3, 10, -65);
        kind("a DUSTER: DAY 999", 43, low, false, 999, 99, 10, -65);
        kind("a third of -1, cut, is 0", 41, "leans 1; holds 1; minds -1;", false, 1, -1, 11, 0);
        kind("a third of -2, cut, is 0", 42, "leans 1; holds 1; minds -2;", false, 1, -1, 11, 0);
        kind("a third of -5, cut, is -1", 41, "leans 1; holds 1; minds -3;", false, 1, -1, 11, -1);
        kind("a third of 2, cut, is 0", 42, "leans 1; holds 1; minds 0;", false, 1, -1, 11, 0);
        kind("a third of 5, cut, is 1", 41, "leans 1; holds 1; minds 2;", false, 1, -1, 11, 1);
        kind("a PLASTER, MET", 59, high, true, 0, -1, 9, 99);
        kind("a PLASTER, not MET", 50, high, false, 0, 0, 0, 99);
        kind("a PLASTER minds as a PERSON", 59, low, true, 0, -1, 9, -99);
        kind("a PERSON: that; that; that", 9, high, true, 0, 99, 99, 99);
        kind("a PERSON: that; that; that", 9, low, true, 0, -99, 0, -99);
    }

    private static void kindsInADay() {
        LeanedOut x = Checks.under("leans 50; holds 99; minds 0;");
        x.person(39, 10);
        x.person(0, 1000);
        due("a CHILD leans 118 and is bounded at 99, above its 49", x.day(), 1);
        due("bounded", x.told(0, 2), 99);
        LeanedOut y = Checks.under("leans 0; holds 99; minds 0;");
        y.person(20, 10);
        y.put(0, 2, 99);
        due("a TENANT's rail holds 109: never kept", y.keeps(0), -1);
        LeanedOut z = Checks.under("leans 9; holds 9; minds 0;");
        z.person(50, 10);
        z.person(59, 1000);
        due("a PLASTER, MET, at 0 stays there", z.day(), 0);
        due("bounded below", z.told(0, 2), 0);
        z.put(0, 1, 11);
        z.put(0, 2, 1);
        z.put(1, 2, 9);
        due("LEANS 0 if not MET; holds MORE", z.day(), 1);
        due("9 isn't more than 9", z.told(1, 5), 0);
    }

    private static void bounds() {
        String[] e = {"98", "99", "100", "-98", "-99", "-100", "9999", "-9999", "0", "-1"};
        int[] leans = {98, 99, 99, -98, -99, -99, 99, -99, 0, -1};
        for (int i = 0; i < e.length; i++) {
            LeanedOut x = Checks.under("leans " + e[i] + "; holds " + e[i] + "; minds " + e[i] + ";");
            x.person(50, 10);
            due("leans -99 .. 99, else the bound: " + e[i], x.asks(0, 0), leans[i]);
            due("holds 0 .. 99, else the bound: " + e[i], x.asks(1, 0), Math.max(0, leans[i]));
            due("minds -99 .. 99, else the bound: " + e[i], x.asks(2, 0), leans[i]);
        }
    }

    /** 4096 * 4096 * 128 is 2 to the 31st, the first that wraps. */
    private static void wraps() {
        String big = "4096*4096*128";
        String[] e = {big, "-(" + big + ")", big + "-1", "(" + big + "-1)+1", "0-" + big + "-1", "4096*4096*256",
            "4096*4096*255", big + "<0", big + "-1<0", big + "=-(" + big + ")", "4096*4096*256=0",
            "not(4096*4096*256)", "4096*4096*256 or 0", "(4096*4096*256+1)*7"};
        int[] want = {-99, -99, 99, -99, 99, 0, -99, 1, 0, 1, 1, 1, 0, 7};
        for (int i = 0; i < e.length; i++) {
            LeanedOut x = Checks.under("leans " + e[i] + "; holds 1; minds 1;");
            x.person(0, 10);
            due("an int (32 bits, wrapping): " + e[i], x.asks(0, 0), want[i]);
        }
    }

    private static void theDay() {
        LeanedOut x = Checks.under("leans 10; holds 10; minds 0;");
        x.person(0, 10);
        due("if it is more than the rail HOLDS: as much isn't", x.day(), 0);
        x.put(0, 2, 1);
        due("one more is", x.day(), 1);
        LeanedOut y = Checks.under("leans day; holds 99; minds 0;");
        y.person(0, 10);
        y.person(0, 111);
        y.dawn(3);
        due("day", y.day(), 0);
        due("at last DAY is 1 more: for all it is 3", y.told(0, 2) * 10 + y.told(1, 2), 33);
        due("at last DAY is 1 more", y.count(2), 4);
        LeanedOut z = Checks.under("leans 1; holds 3 - 2 * beside; minds 0;");
        z.person(0, 10);
        z.person(50, 110);
        z.person(0, 210);
        for (int p = 0; p < 3; p++) z.put(p, 2, 1);
        due("one by one, by numbers: the first has 2 of 3, the third 2 of 1", z.day(), 2 | 4);
        due("those who are KEPT stay as they lean", z.day(), 1);
        due("those who are KEPT stay as they lean", z.told(2, 2), 2);
        LeanedOut all = new LeanedOut();
        all.person(50, 10);
        all.put(0, 2, 1);
        due("KEPT", all.day(), 1);
        all.put(0, 2, 0);
        due("who is KEPT is not kept again", all.day(), 0);
        due("who is KEPT is so with LEAN 0", all.told(0, 5), 1);
    }

    private static void crossings() {
        int[][] twos = {{15, 116, 0}, {16, 115, 1}, {15, 115, 0}, {19, 910, 1}, {10, 919, 0}, {15, 1601, 0},
            {16, 1501, 1}, {15, 1501, 0}, {115, 1601, 0}, {1000, 1101, 0}, {1001, 1100, 1}, {1001, 1101, 0}, {115, 1500, 0}};
        for (int[] t : twos) {
            LeanedOut x = new LeanedOut();
            x.person(0, t[0]);
            x.person(0, t[1]);
            due("CROSS: " + t[0] + " and " + t[1], x.street(1), t[2]);
            LeanedOut y = new LeanedOut();
            y.person(0, t[1]);
            y.person(0, t[0]);
            due("CROSS: " + t[1] + " and " + t[0], y.street(1), t[2]);
        }
        LeanedOut x = new LeanedOut();
        for (int p = 0; p < 6; p++) x.person(0, 100 * p + 19 - p);
        due("all fifteen twos", x.street(1), 15);
        LeanedOut y = new LeanedOut();
        y.person(50, 16);
        y.person(50, 115);
        y.put(0, 2, 1);
        y.day();
        due("also of one who is KEPT", y.street(1), 1);
    }

    /** The lots worked out here by 64 bits' division, at both ends of the seeds. */
    private static void lots() {
        for (int seed : new int[] {0, 1, 2, 99998, 99999}) {
            int[] look = {0, 1, 2, 3, 4, 5}, lean = new int[6];
            long lot = seed + 1;
            for (int d = 0; d < 8; d++) {
                long one = lot * 48271 % 2147483647, place = one * 48271 % 2147483647;
                look[(int) (one % 6)] = (int) (place % 10);
                lot = place;
                for (int p = 0; p < 6; p++) lean[p] += Math.abs(p - look[p]);
            }
            for (int p = 0; p < 6; p++) {
                for (int held = Math.max(0, lean[p] - 1); held <= lean[p]; held++) {
                    LeanedOut y = Checks.under("leans across; holds " + held + "; minds 0;");
                    for (int q = 0; q < 6; q++) y.person(0, q < 3 ? 101 * q + 10 : 1000 + 101 * q);
                    boolean over = lean[p] > held;
                    due("LOTS of SEED " + seed, y.drawn(seed, 0) >> p & 1, over ? 1 : 0);
                    due("odds of SEED " + seed, y.odds(seed, 1, p, 0), over ? 1 : 0);
                }
            }
        }
        LeanedOut x = new LeanedOut();
        due("SEED 0 .. 99999", x.drawn(-1, 0), -2);
        due("SEED 0 .. 99999", x.drawn(0, 0), 0);
        due("SEED 0 .. 99999", x.drawn(99999, 0), 0);
        due("SEED 0 .. 99999", x.drawn(100000, 0), -2);
        x.person(0, 10);
        for (int seed = 0; seed < 60; seed++) due("if there is one: nobody else is", x.drawn(seed, 1), 0);
    }

    private static void imageKeeps() {
        LeanedOut x = new LeanedOut();
        due("text", Checks.text(x, "leans 1; holds 1; minds 1;"), 1);
        x.person(51, 10);
        x.person(52, 1101);
        x.person(53, 215);
        x.put(2, 2, 4);
        x.dawn(7);
        due("kept", x.day(), 4);
        x.force(1);
        due("image", x.image(), 3);
        for (int p = 0; p < 3; p++) {
            x.put(p, 0, x.told(p, 0) + 1);
            x.put(p, 1, x.told(p, 1) < 10 ? 9 : 19);
            x.put(p, 2, 50);
        }
        due("kept", x.day(), 3);
        x.force(0);
        x.dawn(0);
        due("one more", x.person(0, 919), 3);
        due("back", x.back(), 3);
        due("AN IMAGE keeps how many PEOPLE there are", x.count(0), 3);
        due("PEOPLE that came since are none", x.told(3, 0), -5000);
        due("AN IMAGE keeps who is KEPT", x.count(1), 1);
        due("AN IMAGE keeps DAY", x.count(2), 8);
        due("AN IMAGE keeps THE LAW", x.count(4), 1);
        int[][] were = {{0, 10, 0, 5, 1, 0}, {11, 1, 0, 5, 2, 0}, {2, 15, 4, 5, 3, 1}};
        for (int p = 0; p < 3; p++) {
            for (int what = 0; what < 6; what++) due("AN IMAGE keeps " + what, x.told(p, what), were[p][what]);
        }
    }

    private static void sheetsAtFirst() {
        LeanedOut x = new LeanedOut();
        for (int s = 0; s < 4; s++) {
            due("missing (as all are at first)", x.cell(s, 0, 0), -11);
            due("missing (as all are at first)", x.copy(s, 0, s, 0, 0), -11);
            due("missing (as all are at first)", x.peopleBy(s, 0, 0, 0), -11);
        }
        due("SHEETS 0 .. 3", x.cell(4, 0, 0), -2);
        due("SHEETS 0 .. 3", x.cell(-1, 0, 0), -2);
        int[] put = {0, 99, 127, 128, 255, 256, 256 + 99, -256, -255, -128, -1, 32767, 32768, 65535, 65536,
            65536 + 99, 65536 + 256, -65536, -65535, 1 << 24, MOST, LEAST, LEAST + 99, -2147483549};
        for (int v : put) {
            x = new LeanedOut();
            x.person(50, 10);
            int[] as = {(byte) v, (short) v, v};
            for (int sort = 0; sort < 3; sort++) {
                Checks.row(x, 0, sort, v);
                int want = as[sort] >= 0 && as[sort] < 100 ? as[sort] : -1;
                due("lowest 8, 16 bits, of sort " + sort + ": " + v, Reading.cell(x, 0, 0, sort, 0), want);
            }
        }
        for (int n = 0; n <= 40; n += 8) {
            x = new LeanedOut();
            x.sheet(1, n % 3, n);
            due("40 at most: " + n, Reading.size(x, 1), n);
        }
        due("40 at most", x.sheet(1, 0, 41), -2);
        due("40 at most: stays", Reading.size(x, 1), 40);
    }

    private static void refusalsInTurn() {
        LeanedOut x = new LeanedOut();
        x.person(0, 10);
        x.put(0, 2, 99);
        x.day();
        due("the first one told: put", x.put(1, 3, -1), -5);
        due("the first one told: told", x.told(1, 10), -5000);
        due("the first one told: callIn", x.callIn(1), -5);
        due("the first one told: callIn", x.callIn(0), -3);
        due("the first one told: crane", x.crane(1, 20), -5);
        due("the first one told: safe", x.safe(1, 2), -5);
        due("a -1 that is an answer comes behind: turn", x.turn(2), -2);
        due("a -1 that is an answer comes behind: turn", x.turn(0), -1);
        due("a -1 that is an answer comes behind: warn", x.warn(41, 0), -2);
        due("a -1 that is an answer comes behind: warn", x.warn(0, 2), -2);
        due("a -1 that is an answer comes behind: warn", x.warn(0, 0), -1);
        due("a -1 that is an answer comes behind: street", x.street(5), -2);
        due("a -1 that is an answer comes behind: told", x.told(0, 6), -1);
        x.sheet(0, 0, 21);
        due("the first one told: judge", x.judge(4, 9), -2);
        due("the first one told: judge", x.judge(1, 9), -11);
        due("the first one told: judge", x.judge(0, 9), -2);
        x.sheet(0, 0, 20);
        due("the first one told: judge", x.judge(0, 9), -5);
        due("the first one told: kinds", x.kinds(0, 9, 9), -5);
        due("the first one told: film", x.film(4, 9, 99), -2);
        due("the first one told: film", x.film(0, 9, 99), -5);
        due("the first one told: film", x.film(0, 0, 99), -7);
        due("the first one told: sheet", x.sheet(4, 0, -1), -2);
        due("the first one told: sheet", x.sheet(0, 3, -1), -2);
        due("the first one told: cell", x.cell(4, -1, 0), -2);
        due("the first one told: cell", x.cell(1, -1, 0), -11);
        due("the first one told: copy", x.copy(1, -1, 4, -1, -1), -2);
        x.sheet(2, 2, 3);
        due("the first one told: copy", x.copy(1, -1, 0, -1, -1), -11);
        due("the first one told: copy", x.copy(0, -1, 2, -1, -1), -13);
        due("the first one told: peopleBy", x.peopleBy(1, 0, -1, 7), -2);
        due("the first one told: peopleBy", x.peopleBy(1, 0, -1, 1), -11);
        due("the first one told: peopleBy", x.peopleBy(0, 1, -1, 1), -13);
        due("the first one told: taken", x.taken(12, 7), -2);
        due("the first one told: taken", x.taken(12, 0), -12);
        due("the first one told: taken", x.taken(1, 6), -11);
        due("the first one told: taken", x.taken(7, 0), -11);
        due("the first one told: taken", x.taken(0, 1), -13);
    }
}
