/** Promises 1 to 3 and 6 to 10. */
public final class PeopleTest {
    private static final int LEAST = Integer.MIN_VALUE, MOST = Integer.MAX_VALUE;

    public static void main(String[] args) {
        newObject();
        count();
        dawn();
        force();
        asks();
        person();
        personFull();
        put();
        told();
        kinds();
        constants();
        Checks.end("PeopleTest");
    }

    private static void due(String call, long got, long want) {
        Checks.due(call, got, want);
    }

    private static void newObject() {
        LeanedOut x = new LeanedOut();
        int[] counts = {0, 0, 0, 1, 0, 0};
        for (int what = 0; what < 6; what++) due("P1 count " + what, x.count(what), counts[what]);
        due("P1 told", x.told(0, 0), -5000);
        for (int s = 0; s < 4; s++) due("P1 whose", x.whose(s), -11);
        due("P1 back", x.back(), -3);
        due("P1 street", x.street(2), -1);
    }

    private static void count() {
        LeanedOut x = new LeanedOut();
        x.person(0, 15);
        x.person(0, 110);
        due("P2 day", x.day(), 0);
        x.put(0, 2, 99);
        due("P2 kept in it", x.day(), 1);
        due("P2 people", x.count(0), 2);
        due("P2 kept", x.count(1), 1);
        due("P2 day", x.count(2), 2);
        due("P2 text", Checks.text(x, "leans 1; holds 2; minds 3;"), 1);
        due("P2 texts", x.count(3), 2);
        due("P2 law", x.count(4), 0);
        x.force(1);
        due("P2 law", x.count(4), 1);
        x.feed(3, 1, 2, 3, 4, 5);
        due("P2 bytes", x.count(5), 3);
        for (int bad : new int[] {-1, 6, 7, LEAST, MOST}) due("P2 bad", x.count(bad), -2);
    }

    private static void dawn() {
        LeanedOut x = new LeanedOut();
        due("P3", x.dawn(7), 0);
        due("P3", x.dawn(999), 7);
        for (int bad : new int[] {-1, 1000, LEAST, MOST}) due("P3 bad", x.dawn(bad), -2);
        due("P3 stays", x.count(2), 999);
        due("P3", x.dawn(0), 999);
    }

    private static void force() {
        LeanedOut x = new LeanedOut();
        due("P6 bad", x.force(1), -2);
        due("P6 bad", x.force(-1), -2);
        due("P6 same", x.force(0), 0);
        due("P6 text", Checks.text(x, "leans 1; holds 2; minds 3;"), 1);
        due("P6 text", Checks.text(x, "leans 4; holds 5; minds 6;"), 2);
        due("P6 is not law yet", x.count(4), 0);
        due("P6", x.force(2), 0);
        due("P6", x.force(1), 2);
        for (int bad : new int[] {3, -1, LEAST, MOST}) due("P6 bad", x.force(bad), -2);
        due("P6 stays", x.count(4), 1);
    }

    private static void asks() {
        LeanedOut x = Checks.under("leans lean*100-50; holds 0-day; minds across*30;");
        due("P7 none", x.asks(0, 0), -1000);
        x.person(0, 14);
        due("P7 leans, bound", x.asks(0, 0), -50);
        x.put(0, 2, 1);
        due("P7 leans", x.asks(0, 0), 50);
        x.put(0, 2, 2);
        due("P7 leans bound above", x.asks(0, 0), 99);
        x.put(0, 1, 12);
        due("P7 minds", x.asks(2, 0), 60);
        x.put(0, 1, 14);
        due("P7 minds bound above", x.asks(2, 0), 99);
        due("P7 holds 0", x.asks(1, 0), 0);
        x.dawn(5);
        due("P7 holds bound below", x.asks(1, 0), 0);
        for (int bad : new int[] {-1, 3, LEAST, MOST}) due("P7 part", x.asks(bad, 0), -1000);
        for (int bad : new int[] {-1, 1, 6, LEAST, MOST}) due("P7 p", x.asks(0, bad), -1000);
        LeanedOut y = Checks.under("leans -9999; holds 9999; minds 0-9999;");
        y.person(10, 14);
        due("P7 leans bound below", y.asks(0, 0), -99);
        due("P7 holds bound above", y.asks(1, 0), 99);
        due("P7 minds bound below", y.asks(2, 0), -99);
        due("P7 the text's, not the kind's", y.told(0, 9), 0);
    }

    private static void person() {
        LeanedOut x = new LeanedOut();
        int[][] bad = {{60, 10}, {-1, 10}, {0, 9}, {0, 20}, {0, 1010}, {0, 2000}, {0, 1920}, {0, -1}, {0, 99},
            {LEAST, 10}, {MOST, 10}, {0, LEAST}, {0, MOST}};
        for (int[] b : bad) due("P8 bad " + b[0] + " " + b[1], x.person(b[0], b[1]), -2);
        due("P8 none came", x.count(0), 0);
        due("P8", x.person(59, 919), 0);
        due("P8 taken window", x.person(0, 910), -2);
        due("P8 look may be alike", x.person(23, 819), 1);
        due("P8 from there", x.person(0, 1900), 2);
        due("P8 kind", x.told(0, 3), 5);
        due("P8 more", x.told(0, 4), 9);
        due("P8 window", x.told(0, 0), 9);
        due("P8 look", x.told(0, 1), 19);
        due("P8 lean", x.told(0, 2), 0);
        due("P8 kept", x.told(0, 5), 0);
        due("P8 kind", x.told(1, 3), 2);
        due("P8 more", x.told(1, 4), 3);
    }

    private static void personFull() {
        LeanedOut x = new LeanedOut();
        for (int p = 0; p < 6; p++) due("P8 comes", x.person(0, 100 * p + 10), p);
        due("P8 full", x.person(0, 610), -4);
        due("P8 bad ahead of full", x.person(0, 510), -2);
        due("P8 bad ahead of full", x.person(60, 610), -2);
        due("P8 six", x.count(0), 6);
    }

    private static void put() {
        LeanedOut x = new LeanedOut();
        x.person(0, 15);
        x.person(0, 116);
        due("P9 window", x.put(0, 0, 9), 0);
        due("P9 its own", x.put(0, 0, 9), 9);
        due("P9 somebody's", x.put(0, 0, 1), -7);
        for (int bad : new int[] {10, 19, -1, 20, LEAST, MOST}) due("P9 window bad", x.put(0, 0, bad), -7);
        due("P9 window is", x.told(0, 0), 9);
        due("P9 look", x.put(0, 1, 16), 15);
        for (int bad : new int[] {0, 9, -1, 20, LEAST, MOST}) due("P9 look bad", x.put(0, 1, bad), -7);
        due("P9 look is", x.told(0, 1), 16);
        due("P9 lean", x.put(0, 2, 99), 0);
        for (int bad : new int[] {-1, 100, LEAST, MOST}) due("P9 lean bad", x.put(0, 2, bad), -7);
        due("P9 lean is", x.told(0, 2), 99);
        due("P9 isn't kept by it", x.told(0, 5), 0);
        due("P9 lean back", x.put(0, 2, 0), 99);
        for (int bad : new int[] {-1, 3, LEAST, MOST}) due("P9 what", x.put(0, bad, 1), -7);
        for (int bad : new int[] {-1, 2, 6, LEAST, MOST}) due("P9 p", x.put(bad, 0, 1), -5);
        due("P9 p first", x.put(2, 9, 1), -5);
        x.put(1, 2, 99);
        due("P9 kept", x.day(), 2);
        due("P9 of one who is kept", x.put(1, 2, 3), 99);
        due("P9 still kept", x.told(1, 5), 1);
    }

    private static void told() {
        LeanedOut x = Checks.under("leans 7; holds 20; minds 5;");
        x.person(12, 311);
        due("P10 nobody there", x.told(0, 6), -1);
        x.person(20, 1103);
        due("P10 one there", x.told(0, 6), 1);
        due("P10 met, loves", x.told(0, 7), 9);
        due("P10 holds", x.told(0, 8), 20);
        due("P10 minds", x.told(0, 9), 0);
        x.day();
        due("P10 lean", x.told(0, 2), 9);
        x.day();
        x.day();
        due("P10 kept", x.told(0, 5), 1);
        due("P10 lean", x.told(0, 2), 27);
        due("P10 leans, kept", x.told(0, 7), 9);
        for (int bad : new int[] {-1, 10, LEAST, MOST}) due("P10 what", x.told(0, bad), -7000);
        for (int bad : new int[] {-1, 2, LEAST, MOST}) due("P10 p", x.told(bad, 99), -5000);
    }

    /** Each kind, met and not, on days that are fives and not. */
    private static void kinds() {
        int[][] unmet = {{7, 21, 5}, {7, 21, 0}, {7, 31, 14}, {14, 10, 0}, {-7, 31, 4}, {0, 4, 5}};
        int[][] met = {{7, 21, 5}, {11, 21, 0}, {7, 31, 14}, {22, 10, 0}, {-7, 31, 4}, {-1, 4, 5}};
        for (int k = 0; k < 6; k++) {
            LeanedOut x = Checks.under("leans 7; holds 21; minds 5;");
            x.dawn(4);
            x.person(10 * k + 4, 311);
            for (int v = 0; v < 3; v++) due("P10 kind " + k + " unmet " + v, x.told(0, 7 + v), unmet[k][v]);
            x.person(0, 1104);
            for (int v = 0; v < 3; v++) due("P10 kind " + k + " looked past " + v, x.told(0, 7 + v), unmet[k][v]);
            x.put(1, 1, 3);
            for (int v = 0; v < 3; v++) due("P10 kind " + k + " met " + v, x.told(0, 7 + v), met[k][v]);
            x.dawn(5);
            due("P10 kind " + k + " fifth day", x.told(0, 7), k == 4 ? 4 : met[k][0]);
        }
        LeanedOut y = Checks.under("leans -7; holds 0; minds -4;");
        y.dawn(1);
        y.person(41, 311);
        y.person(21, 412);
        y.person(31, 513);
        due("P10 duster leans", y.told(0, 7), 7);
        due("P10 duster minds, cut", y.told(0, 9), -2);
        due("P10 tenant minds", y.told(1, 9), -7);
        due("P10 child holds", y.told(2, 8), 0);
        due("P10 child leans", y.told(2, 7), -14);
    }

    private static void constants() {
        due("NONE", LeanedOut.NONE, -1);
        due("BAD", LeanedOut.BAD, -2);
        due("STATE", LeanedOut.STATE, -3);
        due("FULL", LeanedOut.FULL, -4);
        due("NO", LeanedOut.NO, -4611686018427387904L);
    }
}
