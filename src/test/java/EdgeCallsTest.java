/** The boundary cases that the promises name, call by call: least and most, none and all, just in and just out. */
public final class EdgeCallsTest {
    private static final int LEAST = Integer.MIN_VALUE, MOST = Integer.MAX_VALUE;

    public static void main(String[] args) {
        countsAtBothEnds();
        dawn();
        asksAndTold();
        person();
        put();
        street();
        chain();
        day();
        callInAndCrane();
        run();
        keeps();
        turn();
        safe();
        warn();
        untangle();
        strain();
        toldDays();
        bitsAtBothEnds();
        leans();
        film();
        odds();
        images();
        sheets();
        copies();
        peopleBy();
        taken();
        Checks.end("EdgeCallsTest");
    }

    private static void due(String words, long got, long want) {
        Checks.due(words, got, want);
    }

    /** Six on the first side, all of whom a day keeps. */
    private static LeanedOut six(String law) {
        LeanedOut x = Checks.under(law);
        for (int p = 0; p < 6; p++) x.person(0, 100 * p + 10);
        return x;
    }

    private static void countsAtBothEnds() {
        LeanedOut x = new LeanedOut();
        int[] least = {0, 0, 0, 1, 0, 0}, most = {6, 6, 999, 6, 5, 160};
        for (int what = 0; what < 6; what++) due("P2 count " + what, x.count(what), least[what]);
        for (int t = 1; t < 6; t++) due("P5", Checks.text(x, "leans 9;holds 0;minds 1;"), t);
        due("P6 the last", x.force(5), 0);
        for (int p = 0; p < 6; p++) due("P8", x.person(0, 100 * p + 10), p);
        x.dawn(998);
        due("P13 all", x.day(), 63);
        Checks.tape(x, "x".repeat(160));
        for (int what = 0; what < 6; what++) due("P2 count " + what, x.count(what), most[what]);
        due("P2 BAD", x.count(-1), -2);
        due("P2 BAD", x.count(6), -2);
    }

    private static void dawn() {
        LeanedOut x = new LeanedOut();
        due("P3 the least", x.dawn(0), 0);
        due("P3 the most", x.dawn(999), 0);
        due("P3 1 above", x.dawn(1000), -2);
        due("P3 1 below", x.dawn(-1), -2);
        due("P3 what it was", x.dawn(1), 999);
    }

    private static void asksAndTold() {
        LeanedOut x = six("leans 1;holds 2;minds 3;");
        for (int part = -1; part < 4; part++) {
            for (int p = -1; p < 7; p++) {
                boolean is = part >= 0 && part < 3 && p >= 0 && p < 6;
                due("P7 asks " + part + " of " + p, x.asks(part, p), is ? part + 1 : -1000);
            }
        }
        for (int what = -1; what < 11; what++) {
            due("P10 none such", x.told(-1, what), -5000);
            due("P10 none such", x.told(6, what), -5000);
        }
        int[] told = {-7000, 5, 10, 0, 0, 0, 0, -1, 1, 2, 3, -7000};
        for (int what = -1; what < 11; what++) due("P10 told " + what, x.told(5, what), told[what + 1]);
        x.put(5, 2, 99);
        due("kept", x.day(), 32);
        due("P10 KEPT", x.told(5, 5), 1);
        due("P7 also of one who is KEPT", x.asks(1, 5), 2);
        due("P10 how far one LEANS, KEPT or not", x.told(5, 7), 1);
        LeanedOut none = new LeanedOut();
        due("P7 nobody", none.asks(0, 0), -1000);
        due("P10 nobody", none.told(0, 0), -5000);
    }

    private static void person() {
        LeanedOut x = new LeanedOut();
        due("P8 the least of kindMore", x.person(0, 10), 0);
        due("P8 1 below", x.person(-1, 110), -2);
        due("P8 1 above", x.person(60, 110), -2);
        due("P8 -10 is no PERSON", x.person(-10, 110), -2);
        due("P8 the most of kindMore", x.person(59, 1909), 1);
        due("P8 the least, the most", 100 * x.told(0, 3) + 10 * x.told(0, 4) + x.told(0, 0), 0);
        due("P8 the least, the most", 1000 * x.told(1, 3) + 100 * x.told(1, 4) + x.told(1, 0), 5919);
        due("P8 LOOK 20", x.person(0, 120), -2);
        due("P8 WINDOW 20", x.person(0, 2000), -2);
        due("P8 WINDOW 20 looks at none of either", x.person(0, 2010), -2);
        due("P8 LOOK 99", x.person(0, 199), -2);
        due("P8 window 0, LOOK below 0", x.person(0, -10), -2);
        due("P8 somebody is at that WINDOW", x.person(0, 11), -2);
        x.put(0, 0, 3);
        due("P8 nobody any more", x.person(0, 11), 2);
        due("P8 now somebody is", x.person(0, 310), -2);
        x.put(2, 2, 99);
        due("kept", x.day(), 4);
        due("P8 somebody who is KEPT is", x.person(0, 15), -2);
        for (int p = 3; p < 6; p++) due("P8", x.person(0, 100 * p + 110), p);
        due("P8 FULL", x.person(0, 910), -4);
        due("P8 BAD, not FULL", x.person(60, 910), -2);
        due("P8 BAD, not FULL", x.person(0, 901), -2);
        due("P8 BAD, not FULL", x.person(0, 310), -2);
    }

    private static void put() {
        LeanedOut x = new LeanedOut();
        x.person(0, 10);
        x.person(50, 110);
        x.put(1, 2, 1);
        due("kept", x.day(), 2);
        due("P9 a WINDOW of one who is KEPT", x.put(0, 0, 1), -7);
        due("P9 one's own", x.put(0, 0, 0), 0);
        due("P9 of one who is KEPT, one's own", x.put(1, 0, 1), 1);
        due("P9 of one who is KEPT, another's", x.put(1, 0, 0), -7);
        due("P9 of one who is KEPT", x.put(1, 0, 9), 1);
        due("P9 nobody at it now", x.put(0, 0, 1), 0);
        int[][] not = {{0, -1}, {0, 10}, {0, 9}, {1, 9}, {1, 20}, {1, -1}, {2, -1}, {2, 100}, {3, 0}, {-1, 0}};
        for (int[] n : not) due("P9 " + n[0] + " " + n[1], x.put(0, n[0], n[1]), -7);
        due("P9 the LOOK it has", x.put(0, 1, 10), 10);
        due("P9 the most", x.put(0, 1, 19), 10);
        due("P9 the most", x.put(0, 2, 99), 5);
        due("P9 the least", x.put(0, 2, 0), 99);
        due("P9 none such", x.put(2, 2, 0), -5);
        due("P9 none such", x.put(-1, 2, 0), -5);
    }

    private static void street() {
        LeanedOut x = new LeanedOut();
        for (int p = 0; p < 3; p++) {
            x.person(0, 101 * p + 10);
            x.person(0, 1000 + 101 * p);
        }
        int[] met = {3, 0, 0, 1, 0};
        for (int what = 0; what < 5; what++) due("P11 all MET, " + what, x.street(what), met[what]);
        due("P11 BAD", x.street(-1), -2);
        due("P11 BAD", x.street(5), -2);
        LeanedOut y = new LeanedOut();
        for (int p = 0; p < 6; p++) y.person(0, 100 * p + 19);
        int[] one = {0, 0, 19, 6, 63};
        for (int what = 0; what < 5; what++) due("P11 all at the last, " + what, y.street(what), one[what]);
        for (int p = 0; p < 6; p++) y.put(p, 1, 19 - p);
        int[] each = {0, 15, 14, 1, 63};
        for (int what = 0; what < 5; what++) due("P11 each another, " + what, y.street(what), each[what]);
        y.put(0, 1, 18);
        due("P11 18 has two", y.street(2) * 10 + y.street(3), 182);
        y.put(4, 1, 16);
        due("P11 of like ones the first", y.street(2) * 10 + y.street(3), 162);
    }

    private static void chain() {
        LeanedOut x = new LeanedOut();
        due("P12 none such", x.chain(0), -5);
        x.person(0, 10);
        due("P12 oneself alone", x.chain(0), 1);
        x.person(0, 1000);
        due("P12 somebody who is of them: oneself", x.chain(0), 3);
        due("P12 somebody who is of them: oneself", x.chain(1), 3);
        x.person(0, 110);
        due("P12 into them", x.chain(2), 7);
        due("P12 not back", x.chain(0), 3);
        x.put(0, 1, 11);
        due("P12 till nobody is", x.chain(2), 7);
        due("P12 till nobody is", x.chain(0), 1);
        due("P12 none such", x.chain(3), -5);
        due("P12 none such", x.chain(-1), -5);
        LeanedOut six = new LeanedOut();
        int[] round = {10, 1001, 111, 1102, 212, 1200};
        for (int p = 0; p < 6; p++) six.person(0, round[p]);
        for (int p = 0; p < 6; p++) due("P12 a round of six", six.chain(p), 63);
    }

    private static void day() {
        LeanedOut x = six("leans 1;holds 0;minds 0;");
        x.dawn(998);
        due("P13 all at once", x.day(), 63);
        due("P13 DAY is 999", x.day(), -3);
        x.dawn(998);
        due("P13 who is KEPT in it: nobody anew", x.day(), 0);
        LeanedOut y = new LeanedOut();
        y.dawn(999);
        due("P13 DAY is 999, nobody", y.day(), -3);
        y.dawn(998);
        due("P13 DAY is 998", y.day(), 0);
        due("P13 DAY is 999 then", y.count(2), 999);
    }

    private static void callInAndCrane() {
        LeanedOut x = new LeanedOut();
        due("P14 none such", x.callIn(0), -5);
        due("P15 none such", x.crane(0, 10), -5);
        x.person(50, 10);
        due("P14 LEAN 0", x.callIn(0), 0);
        x.put(0, 2, 99);
        due("P14 LEAN 99", x.callIn(0), 99);
        x.put(0, 2, 1);
        due("kept", x.day(), 1);
        due("P14 STATE: one is", x.callIn(0), -3);
        due("P14 LEAN stays", x.told(0, 2), 1);
        due("P15 KEPT or not", x.crane(0, 19), 10);
        for (int w : new int[] {-1, 0, 9, 20}) due("P15 w " + w, x.crane(0, w), -7);
        due("P15 the one it has", x.crane(0, 19), 19);
        x.person(0, 1900);
        for (int w : new int[] {-1, 10, 19, 20}) due("P15 w " + w, x.crane(1, w), -7);
        due("P15 the last", x.crane(1, 9), 0);
        due("P15 the first", x.crane(1, 0), 9);
        due("P15 none such", x.crane(2, 0), -5);
        due("P14 none such", x.callIn(2), -5);
    }

    private static void run() {
        LeanedOut x = six("leans 1;holds 39;minds day;");
        due("P16 0 DAYS", x.run(0, 0), 0);
        due("P16 39 DAYS", x.run(39, 0), 0);
        due("P16 40 DAYS", x.run(40, 0), 63);
        due("P16 40 DAYS, MIND", x.run(40, 1), 0);
        due("P16 39 DAYS, MIND", x.run(39, 1), 6 * 39);
        due("P16 40 DAYS, LEAN", x.run(40, 2), 240);
        due("P16 41 DAYS", x.run(41, 0), -100000);
        due("P16 -1 DAYS", x.run(-1, 0), -100000);
        for (int p = 0; p < 6; p++) x.put(p, 2, p);
        for (int what = -1; what < 18; what++) {
            int want = what < 0 || what > 2 && what < 10 || what > 15 ? -100000 : what < 2 ? 0 : what == 2 ? 15 : what - 10;
            due("P16 what " + what, x.run(0, what), want);
            due("P16 n ahead of an answer, " + what, x.run(41, what), -100000);
        }
        x.put(0, 2, 99);
        due("kept", x.day(), 1);
        due("P16 who is KEPT then: already", x.run(0, 0), 1);
        due("P16 who aren't", x.run(0, 1), 5);
        due("P16 LEAN of all, of KEPT ones, too", x.run(0, 2), 99 + 2 + 3 + 4 + 5 + 6);
        due("P16 LEAN of one who is KEPT", x.run(40, 10), 99);
        LeanedOut y = new LeanedOut();
        for (int what = 0; what < 3; what++) due("P16 nobody", y.run(40, what), 0);
        due("P16 nobody", y.run(0, 10), -100000);
        LeanedOut z = Checks.under("leans 0;holds 9;minds -5;");
        z.person(0, 10);
        due("P16 a sum below 0", z.run(0, 1), -5);
    }

    private static void keeps() {
        for (int held : new int[] {0, 1, 58, 59, 60, 61}) {
            LeanedOut x = Checks.under("leans 1;holds " + held + ";minds 0;");
            x.person(0, 10);
            due("P17 a rail that holds " + held, x.keeps(0), held < 60 ? held + 1 : -1);
            due("P19 the same, safe", x.safe(0, 1), held + 1 > 61 ? 61 : held + 1);
            due("P17 none such", x.keeps(1), -5);
            due("P17 none such", x.keeps(-1), -5);
            x.put(0, 2, 99);
            due("P17 the next day", x.keeps(0), 1);
            due("kept", x.day(), 1);
            due("P17 KEPT: behind none", x.keeps(0), 0);
        }
    }

    private static void turn() {
        LeanedOut x = new LeanedOut();
        due("P18 nobody", x.turn(0) * 10 + x.turn(1), -10);
        for (int p = 0; p < 6; p++) x.person(0, p < 3 ? 101 * p + 10 : 1000 + 101 * (p - 3));
        due("P18 all MET: none more", x.turn(0), -1);
        due("P18 as so", x.turn(1), 3);
        x.put(5, 1, 9);
        due("P18 the last, to the third", x.turn(0), 502);
        due("P18 three", x.turn(1), 3);
        x.put(4, 1, 9);
        due("P18 of like ones the first", x.turn(0), 401);
        due("P18 two", x.turn(1), 2);
        due("P18 BAD", x.turn(-1), -2);
        due("P18 BAD", x.turn(2), -2);
        LeanedOut y = new LeanedOut();
        y.person(0, 910);
        y.person(0, 1909);
        due("P18 the last WINDOW", y.turn(0), 19);
        // Three look at one in a row of MET ones: leaving one for another gains nothing.
        LeanedOut z = new LeanedOut();
        z.person(0, 10);
        z.person(0, 1000);
        z.person(0, 1100);
        due("P18 as many isn't more", z.turn(0), -1);
        due("P18 as so", z.turn(1), 1);
    }

    private static void safe() {
        LeanedOut x = Checks.under("leans 20 - 2 * across;holds 98;minds 0;");
        x.person(0, 19);
        due("P19 the first", x.safe(0, 0), 0);
        due("P19 leans 2 there", x.safe(0, 1), 50);
        x.put(0, 1, 10);
        due("P19 the last", x.safe(0, 0), 9);
        x.person(0, 919);
        due("P19 nobody at it", x.safe(0, 0), 8);
        due("P19 leans 4 there", x.safe(0, 1), 25);
        due("P19 somebody is at the best", x.safe(1, 0), 1);
        x.put(0, 0, 5);
        due("P19 nobody any more", x.safe(1, 0), 0);
        x.person(0, 1900);
        due("P19 on the other SIDE: one's own", x.safe(2, 0), 19);
        x.put(2, 1, 9);
        due("P19 on the other SIDE: the first", x.safe(2, 0), 10);
        due("P19 what", x.safe(0, 2), -7);
        due("P19 what", x.safe(0, -1), -7);
        due("P19 none such", x.safe(3, 0), -5);
        due("P19 none such", x.safe(-1, 0), -5);
        // Never kept anywhere: 61, and of like ones the first, though one is elsewhere.
        LeanedOut y = Checks.under("leans 0;holds 0;minds 0;");
        y.person(0, 710);
        due("P19 not by 60: 61", y.safe(0, 1), 61);
        due("P19 of like ones the first", y.safe(0, 0), 0);
    }

    private static void warn() {
        LeanedOut x = six("leans 1;holds 40;minds 0;");
        due("P20 n 0", x.warn(0, 0) * 10 + x.warn(0, 1), -10);
        for (int p = 0; p < 6; p++) x.put(p, 2, 1);
        due("P20 n 39: none is KEPT", x.warn(39, 0) * 10 + x.warn(39, 1), -10);
        due("P20 n 40: the first of like ones", x.warn(40, 0), 0);
        due("P20 n 40", x.warn(40, 1), 5);
        due("P20 n 41", x.warn(41, 0), -2);
        due("P20 n -1", x.warn(-1, 1), -2);
        due("P20 what", x.warn(40, 2), -2);
        due("P20 what", x.warn(40, -1), -2);
        x.put(0, 2, 40);
        due("kept", x.day(), 1);
        due("P20 who isn't KEPT: not the first", x.warn(40, 0), 1);
        due("P20 the first counts", x.warn(40, 1), 5);
        for (int p = 1; p < 6; p++) x.put(p, 2, 99);
        due("kept", x.day(), 62);
        due("P20 all KEPT: nobody", x.warn(40, 0), -1);
        due("P20 as so", x.warn(40, 1), 6);
        due("P20 all KEPT: nobody", x.warn(0, 0), -1);
        LeanedOut y = six("leans 1;holds 40;minds 0;");
        y.put(5, 2, 1);
        due("P20 the last", y.warn(40, 0), 5);
        due("P20 none left", y.warn(40, 1), 0);
        LeanedOut z = Checks.under("leans 1 + 50 * (lean < 0);holds 35;minds 0;");
        z.person(0, 10);
        z.put(0, 2, 30);
        due("P20 were LEAN 0, no less", z.warn(6, 0), 0);
        due("P20 were LEAN 0, no less", z.warn(6, 1), 0);
    }

    private static void untangle() {
        LeanedOut x = new LeanedOut();
        for (int side = 0; side < 2; side++) due("P21 nobody", x.untangle(side, 0) * 10 + x.untangle(side, 1), 0);
        x.person(0, 15);
        due("P21 one", x.untangle(0, 0), 1);
        due("P21 nobody there", x.untangle(1, 0), 0);
        for (int bad : new int[] {-1, 2}) {
            due("P21 BAD", x.untangle(bad, 0), -2);
            due("P21 BAD", x.untangle(0, bad), -2);
        }
        LeanedOut six = new LeanedOut();
        for (int p = 0; p < 6; p++) six.person(0, 100 * p + 19 - p);
        due("P21 all the other way round", six.untangle(0, 0), 654321);
        due("P21 none", six.untangle(0, 1), 0);
        due("P21 the other SIDE: as so", six.untangle(1, 1), 15);
        for (int p = 0; p < 6; p++) six.put(p, 1, 15);
        due("P21 of like ones the first by digits", six.untangle(0, 0), 123456);
        for (int p = 0; p < 6; p++) six.put(p, 1, 10 + p);
        due("P21 none cross: each one's own", six.untangle(0, 0), 123456);
        six.put(5, 1, 10);
        six.put(0, 1, 15);
        due("P21 the last and the first", six.untangle(0, 0), 623451);
        LeanedOut there = new LeanedOut();
        for (int p = 0; p < 6; p++) there.person(0, 1900 - 100 * p + p);
        due("P21 the other SIDE", there.untangle(1, 0), 654321);
        due("P21 the other SIDE", there.untangle(1, 1), 0);
        due("P21 this SIDE: as so", there.untangle(0, 1), 15);
        LeanedOut kept = new LeanedOut();
        kept.person(50, 19);
        kept.person(0, 110);
        kept.put(0, 2, 1);
        due("kept", kept.day(), 1);
        due("P21 all who are on a SIDE, KEPT or not", kept.untangle(0, 0), 21);
    }

    private static void strain() {
        LeanedOut x = Checks.under("leans 0;holds 99;minds 0;");
        x.person(20, 10);
        x.person(51, 110);
        x.person(50, 210);
        int[][] of = {{0, 0, 0, 1}, {0, 1, 1, 109}, {0, 99, 99, 109}, {1, 0, 0, 1}, {1, 1, 1, 1}, {1, 99, 99, 1}};
        for (int[] o : of) {
            x.put(o[0], 2, o[1]);
            due("P22 above", x.strain(o[0], 0), o[2]);
            due("P22 below", x.strain(o[0], 1), o[3]);
        }
        for (int part = -1; part < 3; part++) {
            due("P22 it HOLDS 0", x.strain(2, part), LeanedOut.NO);
            due("P22 none such", x.strain(3, part), LeanedOut.NO);
            due("P22 none such", x.strain(-1, part), LeanedOut.NO);
        }
        due("P22 part", x.strain(0, 2), LeanedOut.NO);
        due("P22 part", x.strain(0, -1), LeanedOut.NO);
        LeanedOut y = Checks.under("leans 0;holds 96;minds 0;");
        y.person(0, 10);
        y.put(0, 2, 96);
        due("P22 all it holds", y.strain(0, 0) * 1000 + y.strain(0, 1), 1001);
        y.put(0, 2, 36);
        due("P22 in lowest terms", y.strain(0, 0) * 1000 + y.strain(0, 1), 3008);
        due("day", y.day(), 0);
        y.put(0, 2, 97);
        due("kept", y.day(), 1);
        due("P22 of one who is KEPT", y.strain(0, 0) * 1000 + y.strain(0, 1), 97096);
    }

    private static void toldDays() {
        LeanedOut x = six("leans 3;holds 99;minds 0;");
        for (int n = 0; n <= 20; n++) {
            x.sheet(0, 2, n);
            for (int i = 0; i < n; i++) x.cell(0, i, 3 * (i + 1));
            due("P23 " + n, x.judge(0, 5), -1);
            if (n == 0) continue;
            x.cell(0, n - 1, 3 * n - 1);
            due("P23 the last of " + n, x.judge(0, 5), n - 1);
            x.cell(0, 0, -3);
            due("P23 the first of " + n, x.judge(0, 5), 0);
        }
        x.sheet(1, 0, 21);
        x.sheet(2, 0, 20);
        int[][] refused = {{-1, 9, -2}, {4, 9, -2}, {3, 9, -11}, {1, 9, -2}, {2, 9, -5}, {2, 6, -5}, {2, -1, -5}};
        for (int[] r : refused) {
            due("P23 judge", x.judge(r[0], r[1]), r[2]);
            due("P24 kinds", x.kinds(r[0], r[1], 2), r[2]);
            due("P25 windows", x.windows(r[0], r[1], 2), r[2]);
            due("P26 leans", x.leans(r[0], r[1], 2), r[2]);
            due("P28 laws", x.laws(r[0], r[1]), r[2]);
            if (r[2] != -5) due("P27 whose", x.whose(r[0]), r[2]);
        }
        for (int bad : new int[] {-1, 2}) {
            due("P24 sort", x.kinds(2, 5, bad), -7);
            due("P25 sort", x.windows(2, 5, bad), -7);
            due("P26 what", x.leans(2, 5, bad), -7);
        }
        x.sheet(1, 0, 40);
        due("P23 it tells more than 20: 40", x.judge(1, 0), -2);
    }

    /** The lowest and the highest of all bits that a row can be told by. */
    private static void bitsAtBothEnds() {
        LeanedOut x = Checks.under("leans more + 10;holds 99;minds 0;");
        for (int p = 0; p < 6; p++) x.person(p % 5, 100 * p + 10);
        Checks.row(x, 0, 2, 10);
        due("P24 MORE 0", x.kinds(0, 3, 1), 1);
        due("P27 the first and the last", x.whose(0), 1 | 32);
        Checks.row(x, 0, 2, 19);
        due("P24 MORE 9", x.kinds(0, 3, 1), 512);
        due("P27 none", x.whose(0), 0);
        Checks.row(x, 0, 2, 20);
        due("P24 none", x.kinds(0, 3, 1), 0);
        x.dawn(1);
        Checks.row(x, 0, 2, 12);
        due("P24 KINDS: PERSON, LOVER, TENANT", x.kinds(0, 2, 0), 7);
        Checks.row(x, 0, 2, 24);
        due("P24 KINDS: CHILD", x.kinds(0, 2, 0), 8);
        Checks.row(x, 0, 2, 0);
        due("P24 KINDS: DUSTER, PLASTER", x.kinds(0, 2, 0), 16 | 32);
        LeanedOut y = Checks.under("leans across;holds 99;minds 0;");
        y.person(0, 10);
        y.person(0, 1900);
        Checks.row(y, 0, 2, 0);
        due("P25 the first", y.windows(0, 0, 0), 1);
        due("P25 the first", y.windows(0, 0, 1), 1 << 10);
        due("P25 the other SIDE", y.windows(0, 1, 0), 1 << 10);
        due("P25 the other SIDE", y.windows(0, 1, 1), 1 << 9);
        Checks.row(y, 0, 2, 9);
        due("P25 the last", y.windows(0, 0, 0), 1 << 9);
        due("P25 the last", y.windows(0, 0, 1), 1 << 19);
        due("P25 the other SIDE", y.windows(0, 1, 0), 1 << 19);
        due("P25 the other SIDE", y.windows(0, 1, 1), 1);
        y.person(0, 919);
        due("P25 somebody is at it", y.windows(0, 0, 0), 0);
        due("P25 somebody is at it: one may look there", y.windows(0, 1, 1), 1);
        Checks.row(y, 0, 2);
        due("P25 all free ones", y.windows(0, 0, 0), 511);
        due("P25 all free ones", y.windows(0, 1, 0), 1023 << 10);
        LeanedOut z = new LeanedOut();
        z.person(0, 10);
        Checks.row(z, 0, 2, 7);
        for (int t = 1; t < 6; t++) due("P5", Checks.text(z, "leans " + (t == 5 ? 7 : 8) + ";holds 9;minds 0;"), t);
        due("P28 the last", z.laws(0, 0), 32);
        Checks.row(z, 0, 2, 5);
        due("P28 the first", z.laws(0, 0), 1);
        Checks.row(z, 0, 2);
        due("P28 all", z.laws(0, 0), 63);
    }

    private static void leans() {
        LeanedOut x = Checks.under("leans 0;holds 99;minds 0;");
        x.person(0, 10);
        for (int v : new int[] {0, 1, 98, 99}) {
            Checks.row(x, 0, 2, v, v);
            due("P26 one alone", x.leans(0, 0, 0), 1);
            due("P26 the least", x.leans(0, 0, 1), v);
        }
        for (int v : new int[] {-1, 100, LEAST, MOST}) {
            Checks.row(x, 0, 2, v);
            due("P26 none", x.leans(0, 0, 0), 0);
            due("P26 none: -1", x.leans(0, 0, 1), -1);
        }
        LeanedOut y = Checks.under("leans -99;holds 99;minds 0;");
        y.person(0, 10);
        Checks.row(y, 0, 2, 0, 0, 0);
        due("P26 all", y.leans(0, 0, 0), 100);
        due("P26 all: the least is 0", y.leans(0, 0, 1), 0);
    }

    private static void film() {
        LeanedOut x = Checks.under("leans 40;holds 98;minds 0;");
        x.person(0, 10);
        x.person(50, 110);
        x.put(1, 2, 7);
        due("P29 -1", x.film(0, 0, -1), -7);
        due("P29 21", x.film(0, 0, 21), -7);
        due("P29 refused: still missing", x.cell(0, 0, 0), -11);
        due("P29 0", x.film(0, 0, 0), 0);
        due("P29 0: a row of none", Reading.size(x, 0), 0);
        due("P29 20", x.film(0, 0, 20), 20);
        due("P29 20: as many", Reading.size(x, 0), 20);
        int[] told = {40, 80, 99, 99};
        for (int i = 0; i < 4; i++) due("P29 number " + i, Reading.cell(x, 1, 0, 0, i), told[i]);
        x.sheet(1, 2, 40);
        due("P29 whatever it was", x.film(1, 1, 1), 1);
        due("P29 bytes now", x.copy(1, 0, 0, 0, 1), 1);
        due("P29 bytes now: one", Reading.size(x, 1), 1);
        due("P29 refused", x.film(1, 2, 5), -5);
        due("P29 refused", x.film(4, 0, 5), -2);
        due("P29 refused", x.film(-1, 0, 5), -2);
        due("P29 refused: as it was", Reading.size(x, 1), 1);
    }

    private static void odds() {
        LeanedOut x = Checks.under("leans across;holds 11;minds 0;");
        x.person(0, 10);
        // Past 99999 seeds go on: the odds of 40 from 99999 are of 99999 .. 100038.
        for (int seeds : new int[] {1, 2, 39, 40}) {
            int many = 0;
            for (int i = 0; i < seeds; i++) if (leaned(99999L + i) > 11) many++;
            long above = x.odds(99999, seeds, 0, 0), below = x.odds(99999, seeds, 0, 1);
            due("P31 they may pass 99999, of " + seeds, above * seeds, many * below);
            due("P31 lowest terms: no divisor is left", divisor(above, below), 1);
        }
        due("P31 some, not all", leaned(99999) == leaned(100001) ? 0 : 1, 1);
        due("P31 seeds 0", x.odds(0, 0, 0, 0), LeanedOut.NO);
        due("P31 seeds 41", x.odds(0, 41, 0, 0), LeanedOut.NO);
        due("P31 SEED -1", x.odds(-1, 1, 0, 0), LeanedOut.NO);
        due("P31 SEED 100000", x.odds(100000, 1, 0, 0), LeanedOut.NO);
        due("P31 part", x.odds(0, 1, 0, 2), LeanedOut.NO);
        due("P31 part", x.odds(0, 1, 0, -1), LeanedOut.NO);
        due("P31 nobody", x.odds(0, 1, 1, 0), LeanedOut.NO);
        due("P31 nobody", x.odds(0, 1, -1, 0), LeanedOut.NO);
    }

    private static long divisor(long a, long b) {
        return b == 0 ? a : divisor(b, a % b);
    }

    /** How far the only one, at window 0, leans behind the cranes of a seed by "leans across". */
    private static int leaned(long seed) {
        int lean = 0, look = 0;
        long lot = seed + 1;
        for (int d = 0; d < 8; d++) {
            lot = lot * 48271 % 2147483647;
            boolean is = lot % 6 == 0;
            lot = lot * 48271 % 2147483647;
            if (is) look = (int) (lot % 10);
            lean += look;
        }
        return lean;
    }

    private static void images() {
        LeanedOut x = new LeanedOut();
        due("P33 STATE: there is none", x.back(), -3);
        x.person(0, 10);
        due("P33 STATE changes nothing", x.back() * 10 + x.count(0), -29);
        x.person(0, 110);
        due("P32 how many", x.image(), 2);
        due("P33 at once", x.back(), 2);
        x.person(59, 210);
        due("P33", x.back(), 2);
        due("P33 and again", x.back(), 2);
        due("P33 none such now", x.told(2, 0), -5000);
        due("P33 nobody at that WINDOW now", x.put(1, 0, 2), 1);
        due("P33 the next has the number", x.person(13, 310), 2);
        due("P33 and is another", x.told(2, 3) * 10 + x.told(2, 4), 13);
        due("P32 the last one is kept", x.image(), 3);
        x.put(2, 0, 4);
        due("P33 the last one", x.back(), 3);
        due("P33 the last one", x.told(2, 0), 3);
        LeanedOut six = new LeanedOut();
        due("P32 nobody", six.image(), 0);
        for (int p = 0; p < 6; p++) six.person(0, 100 * p + 10);
        due("FULL", six.person(0, 610), -4);
        due("P33 nobody", six.back(), 0);
        for (int p = 0; p < 6; p++) due("P33 room again", six.person(0, 100 * p + 10), p);
        due("P32 six", six.image(), 6);
        due("P33 six", six.back(), 6);
    }

    private static void sheets() {
        LeanedOut x = new LeanedOut();
        x.person(50, 10);
        due("P34 sort -2", x.sheet(0, -2, 1), -2);
        due("P34 sort 3", x.sheet(0, 3, 1), -2);
        due("P34 41", x.sheet(0, 0, 41), -2);
        due("P34 -1", x.sheet(0, 0, -1), -14);
        due("P34 still missing", x.cell(0, 0, 1), -11);
        for (int n : new int[] {0, 1, 39, 40}) {
            for (int sort = 0; sort < 3; sort++) {
                x = new LeanedOut();
                x.person(50, 10);
                due("P34", x.sheet(0, sort, n), 1);
                // Whatever stood there: a row anew is all 0.
                for (int i = 0; i < n; i++) x.cell(0, i, 9);
                due("P34 anew", x.sheet(0, sort, n), 1);
                due("P34 as many", Reading.size(x, 0), n);
                due("P35 behind", x.cell(0, n, 1), -12);
                due("P35 ahead", x.cell(0, -1, 1), -12);
                for (int i = 0; i < n; i += 3) due("P34 all 0", Reading.cell(x, 0, 0, sort, i), 0);
                if (n > 0) due("P35 the first", x.cell(0, 0, 5), 1);
                if (n > 0) due("P35 the last", x.cell(0, n - 1, 6), 1);
                if (n > 1) due("P35 the first", Reading.cell(x, 0, 0, sort, 0), 5);
                if (n > 0) due("P35 the last", Reading.cell(x, 0, 0, sort, n - 1), 6);
            }
        }
        due("P34 n does not matter: -1", x.sheet(0, -1, -1), 1);
        due("P34 missing", x.cell(0, 0, 1), -11);
        due("P34 n does not matter: 41", x.sheet(0, -1, 41), 1);
        due("P34 BAD: SHEET, though missing is asked", x.sheet(4, -1, 0), -2);
        due("P34 SHEET 3", x.sheet(3, 0, 1), 1);
        due("P34 anew", x.sheet(0, 2, 5), 1);
        for (int i = 0; i < 5; i++) due("P34 all 0 again", Reading.cell(x, 0, 0, 2, i), 0);
    }

    /** Rows of 0 .. 9 within, all ways to lie over each other. */
    private static void copies() {
        for (int i = 0; i <= 6; i++) {
            for (int j = 0; j <= 6; j++) {
                LeanedOut x = new LeanedOut();
                x.person(50, 10);
                Checks.row(x, 0, 1, 10, 11, 12, 13, 14, 15);
                int n = 6 - Math.max(i, j);
                due("P36 one too many", x.copy(0, i, 0, j, n + 1), -12);
                due("P36 as many as have room", x.copy(0, i, 0, j, n), n);
                for (int k = 0; k < 6; k++) {
                    int want = k >= j && k < j + n ? 10 + k - j + i : 10 + k;
                    due("P36 as they were: from " + i + " to " + j, Reading.cell(x, 0, 0, 1, k), want);
                }
            }
        }
        LeanedOut x = new LeanedOut();
        x.sheet(0, 0, 40);
        x.sheet(1, 0, 40);
        x.sheet(2, 0, 0);
        int[][] not = {{-1, 0, 1}, {0, -1, 1}, {40, 0, 1}, {0, 40, 1}, {1, 0, 40}, {0, 1, 40}, {0, 0, 41}, {0, 0, -1},
            {41, 0, 0}, {0, 41, 0}, {-1, 0, 0}, {0, -1, 0}, {MOST, 0, 2}, {0, MOST, 2}, {MOST, MOST, 2}, {39, 39, MOST},
            {LEAST, 0, LEAST}, {0, 0, LEAST}};
        for (int[] n : not) due("P36 " + n[0] + " " + n[1] + " " + n[2], x.copy(0, n[0], 1, n[1], n[2]), -12);
        due("P36 all", x.copy(0, 0, 1, 0, 40), 40);
        due("P36 the last", x.copy(0, 39, 1, 39, 1), 1);
        due("P36 none, at the end", x.copy(0, 40, 1, 40, 0), 0);
        due("P36 none, of an empty row", x.copy(2, 0, 2, 0, 0), 0);
        due("P36 one of an empty row", x.copy(2, 0, 0, 0, 1), -12);
        due("P36 one to an empty row", x.copy(0, 0, 2, 0, 1), -12);
        due("P36 missing", x.copy(3, 0, 0, 0, 0), -11);
        due("P36 missing", x.copy(0, 0, 3, 0, -1), -11);
        x.sheet(3, 2, 40);
        due("P36 unlike sorts", x.copy(0, 0, 3, 0, 0), -13);
        due("P36 unlike sorts", x.copy(3, 0, 0, 0, -1), -13);
    }

    private static void peopleBy() {
        for (int n = 0; n <= 6; n++) {
            LeanedOut x = new LeanedOut();
            x.sheet(0, 2, 12);
            for (int i = 0; i < 6; i++) {
                x.cell(0, 2 * i, 10 * i);
                x.cell(0, 2 * i + 1, 100 * i + 15);
            }
            due("P37 " + n + " of them", x.peopleBy(0, 2, 0, n), n);
            due("P37 " + n + " of them", x.count(0), n);
            due("P37 others are left out: somebody is there", x.peopleBy(0, 2, 0, n), 0);
            due("P37 to the end", x.peopleBy(0, 2, 12 - 2 * n, n), Math.max(0, Math.min(6 - n, n)));
        }
        LeanedOut x = new LeanedOut();
        Checks.row(x, 0, 2, 0, 10, 0, 10, 0, 110);
        due("P37 from the end", x.peopleBy(0, 2, 6, 1), -12);
        due("P37 one number is left", x.peopleBy(0, 2, 5, 1), -12);
        due("P37 ahead", x.peopleBy(0, 2, -1, 1), -12);
        due("P37 ahead", x.peopleBy(0, 2, -2, 6), -12);
        due("P37 none came", x.count(0), 0);
        due("P37 one is left out", x.peopleBy(0, 2, 0, 3), 2);
        due("P37 -12 behind those left out", x.peopleBy(0, 2, 0, 4), -12);
        due("P37 the same", x.count(0), 2);
        due("P37 7 of them", x.peopleBy(0, 2, 0, 7), -2);
        due("P37 -1 of them", x.peopleBy(0, 2, 0, -1), -2);
        due("P37 none of a row of none", x.sheet(1, 0, 0) + x.peopleBy(1, 0, 0, 0), 1);
        due("P37 one of a row of none", x.peopleBy(1, 0, 0, 1), -12);
        LeanedOut y = new LeanedOut();
        Checks.row(y, 0, 1, 0, 210, 0, 310, 0, 410);
        for (int p = 0; p < 5; p++) y.person(0, 1000 + 100 * p);
        due("P37 what stood ahead came", y.peopleBy(0, 1, 4, 2), -12);
        due("P37 what stood ahead came", y.told(5, 0), 4);
        due("P37 FULL: others are left out", y.peopleBy(0, 1, 0, 3), 0);
        LeanedOut z = new LeanedOut();
        Checks.row(z, 0, 0, 59, 119);
        due("P37 bytes", z.peopleBy(0, 0, 0, 1), 1);
        due("P37 bytes", z.told(0, 3) * 1000 + z.told(0, 4) * 100 + z.told(0, 1), 5919);
    }

    private static void taken() {
        LeanedOut x = new LeanedOut();
        for (int i = -1; i < 13; i++) {
            for (int kind = -1; kind < 8; kind++) {
                int want = kind < 0 || kind > 6 ? -2 : i < 0 || i > 11 ? -12 : -11;
                due("P38 nobody: " + i + " " + kind, x.taken(i, kind), want);
            }
        }
        for (int p = 0; p < 6; p++) x.person(10 * p, 100 * p + 10);
        x.put(5, 2, 1);
        due("kept", x.day(), 32);
        int[] isOne = {1, 3, 5, 11, 21, 33};
        for (int i = -1; i < 13; i++) {
            for (int kind = -1; kind < 8; kind++) {
                int want = -13;
                if (i >= 0 && i < 6 && kind >= 0 && kind < 6 && (isOne[i] >> kind & 1) == 1) want = i;
                if (i >= 6 && kind == 6) want = i == 11 ? 1 : 0;
                if (i < 0 || i > 11) want = -12;
                if (kind < 0 || kind > 6) want = -2;
                due("P38 " + i + " as " + kind, x.taken(i, kind), want);
            }
        }
    }
}
