/** Promises 11 to 17: looks and days. */
public final class DaysTest {
    private static final int[] WRONG = {-1, 6, 100, Integer.MIN_VALUE, Integer.MAX_VALUE};

    public static void main(String[] args) {
        street();
        crossings();
        chain();
        day();
        dayInTurn();
        callIn();
        crane();
        run();
        keeps();
        Checks.end("DaysTest");
    }

    private static void due(String call, long got, long want) {
        Checks.due(call, got, want);
    }

    private static void street() {
        LeanedOut x = new LeanedOut();
        int[] nobody = {0, 0, -1, 0, 0};
        for (int what = 0; what < 5; what++) due("P11 nobody", x.street(what), nobody[what]);
        x.person(0, 3 * 100 + 14);
        x.person(0, 14 * 100 + 3);
        x.person(0, 5 * 100 + 14);
        x.person(0, 16 * 100 + 7);
        x.person(0, 7 * 100 + 16);
        due("P11 met", x.street(0), 2);
        due("P11 most looked at", x.street(2), 14);
        due("P11 by how many", x.street(3), 2);
        due("P11 by nobody", x.street(4), 4);
        x.person(0, 18 * 100 + 3);
        due("P11 the first of like ones", x.street(2), 3);
        due("P11 by how many", x.street(3), 2);
        due("P11 by nobody", x.street(4), 4 | 32);
        for (int bad : new int[] {-1, 5, Integer.MIN_VALUE, Integer.MAX_VALUE}) due("P11 bad", x.street(bad), -2);
        LeanedOut y = new LeanedOut();
        y.person(0, 1000);
        due("P11 looked at by one", y.street(2), 0);
        due("P11 looked at by one", y.street(3), 1);
        due("P11 the first, whom nobody looks at", y.street(4), 1);
        y.image();
        y.person(0, 10);
        due("P11 met", y.street(0), 1);
        y.back();
        int[] alone = {0, 0, 0, 1, 1};
        for (int what = 0; what < 5; what++) due("P11 none of those who are none", y.street(what), alone[what]);
    }

    private static void crossings() {
        LeanedOut x = new LeanedOut();
        x.person(0, 2 * 100 + 15);
        x.person(0, 4 * 100 + 15);
        due("P11 one end alike", x.street(1), 0);
        x.put(0, 1, 16);
        due("P11 cross", x.street(1), 1);
        x.put(0, 1, 14);
        due("P11 don't", x.street(1), 0);
        // From the other side: the first side's end is the look.
        x.person(0, 13 * 100 + 9);
        due("P11 cross both", x.street(1), 2);
        x.put(2, 1, 4);
        due("P11 cross one; with the other an end is alike", x.street(1), 1);
        x.put(2, 1, 3);
        due("P11 cross the first", x.street(1), 1);
    }

    private static void chain() {
        LeanedOut x = new LeanedOut();
        x.person(0, 10);
        x.person(0, 1001);
        x.person(0, 111);
        x.person(0, 1102);
        x.person(0, 510);
        due("P12 till nobody", x.chain(0), 1 | 2 | 4 | 8);
        due("P12", x.chain(2), 4 | 8);
        due("P12", x.chain(3), 8);
        due("P12", x.chain(4), 16 | 2 | 4 | 8);
        x.person(0, 211);
        due("P12 round", x.chain(3), 8 | 32);
        due("P12 into a round", x.chain(0), 1 | 2 | 4 | 8 | 32);
        LeanedOut six = new LeanedOut();
        int[] row = {10, 1001, 111, 1102, 212, 1203};
        for (int p = 0; p < 6; p++) six.person(0, row[p]);
        due("P12 six", six.chain(0), 63);
        LeanedOut y = new LeanedOut();
        for (int bad : WRONG) due("P12 none", y.chain(bad), -5);
        due("P12 none", y.chain(0), -5);
    }

    private static void day() {
        LeanedOut x = Checks.under("leans 10; holds 20; minds 1;");
        x.person(0, 15);
        x.person(20, 116);
        x.person(50, 1500);
        due("P13", x.day(), 0);
        due("P13 at the rail's end", x.day(), 0);
        due("P13 lean", x.told(0, 2), 20);
        due("P13 over", x.day(), 1);
        due("P13 only those kept in it", x.day(), 2);
        due("P13 lean stays", x.told(0, 2), 30);
        due("P13 day", x.count(2), 4);
        due("P13 kept", x.count(1), 2);
        LeanedOut y = Checks.under("leans 60 - day*200; holds 99; minds 1;");
        y.person(0, 15);
        y.day();
        due("P13", y.told(0, 2), 60);
        due("P13 bound below", y.day(), 0);
        due("P13 bound below", y.told(0, 2), 0);
        y.dawn(0);
        y.day();
        y.dawn(0);
        due("P13 bound above: 99 isn't over 99", y.day(), 0);
        due("P13 bound above", y.told(0, 2), 99);
        y.dawn(998);
        due("P13 the last", y.day(), 0);
        due("P13 state", y.day(), -3);
        due("P13 state", y.count(2), 999);
        LeanedOut z = new LeanedOut();
        due("P13 nobody", z.day(), 0);
        z.person(50, 15);
        z.put(0, 2, 1);
        due("P13 a rail that holds nothing", z.day(), 1);
    }

    /** Who is kept ahead in a day is beside those behind, in the same day. */
    private static void dayInTurn() {
        LeanedOut x = Checks.under("leans 1+50*beside; holds 50-30*beside; minds 1;");
        x.person(0, 115);
        x.person(0, 15);
        x.person(0, 215);
        x.person(0, 315);
        x.put(1, 2, 50);
        due("P13 first day: the second, then the third isn't beside", x.day(), 2);
        due("P13 lean of the first", x.told(0, 2), 1);
        due("P13 second day: the first, then all in turn", x.day(), 1 | 4 | 8);
        due("P13", x.told(0, 2), 52);
        due("P13", x.told(2, 2), 52);
        LeanedOut y = Checks.under("leans 10; holds lean; minds 1;");
        y.person(0, 115);
        due("P13 holds by the new lean", y.day(), 0);
    }

    private static void callIn() {
        LeanedOut x = new LeanedOut();
        x.person(0, 15);
        x.put(0, 2, 44);
        due("P14", x.callIn(0), 44);
        due("P14", x.told(0, 2), 0);
        due("P14 again", x.callIn(0), 0);
        x.put(0, 2, 99);
        x.day();
        due("P14 kept", x.callIn(0), -3);
        due("P14 lean stays", x.told(0, 2), 99);
        due("P14 none", x.callIn(1), -5);
        for (int bad : WRONG) due("P14 none", x.callIn(bad), -5);
    }

    private static void crane() {
        LeanedOut x = new LeanedOut();
        x.person(0, 15);
        x.person(0, 1200);
        due("P15", x.crane(0, 19), 15);
        due("P15", x.told(0, 1), 19);
        due("P15 from there", x.crane(1, 9), 0);
        for (int bad : new int[] {0, 9, 20, -1, Integer.MIN_VALUE, Integer.MAX_VALUE}) {
            due("P15 w", x.crane(0, bad), -7);
        }
        due("P15 w", x.crane(1, 10), -7);
        due("P15 stays", x.told(0, 1), 19);
        x.put(0, 2, 99);
        x.day();
        due("P15 kept", x.crane(0, 10), 19);
        due("P15 none", x.crane(2, 0), -5);
        for (int bad : WRONG) due("P15 none", x.crane(bad, 99), -5);
    }

    private static void run() {
        LeanedOut x = Checks.under("leans 10; holds 20; minds day;");
        x.person(0, 15);
        x.person(20, 116);
        due("P16 kept", x.run(2, 0), 0);
        due("P16 kept", x.run(3, 0), 1);
        due("P16 kept", x.run(4, 0), 3);
        due("P16 minds", x.run(2, 1), 2 + 4);
        due("P16 minds, without the kept", x.run(3, 1), 6);
        due("P16 minds", x.run(4, 1), 0);
        due("P16 lean of all", x.run(3, 2), 60);
        due("P16 lean of all", x.run(40, 2), 70);
        due("P16 lean of one", x.run(2, 10), 20);
        due("P16 lean of one", x.run(40, 11), 40);
        due("P16 none", x.run(0, 2), 0);
        for (int bad : new int[] {-1, 41, Integer.MIN_VALUE, Integer.MAX_VALUE}) {
            due("P16 n", x.run(bad, 0), -100000);
            due("P16 n", x.run(bad, 10), -100000);
        }
        for (int bad : new int[] {-1, 3, 9, 12, 16, Integer.MIN_VALUE, Integer.MAX_VALUE}) {
            due("P16 what", x.run(1, bad), -100000);
        }
        due("P16 in thought", x.count(2), 0);
        due("P16 in thought", x.told(0, 2), 0);
        x.dawn(999);
        due("P16 past the last day", x.run(2, 1), 99 + 198);
        LeanedOut y = new LeanedOut();
        due("P16 nobody", y.run(1, 10), -100000);
    }

    private static void keeps() {
        LeanedOut x = Checks.under("leans 1; holds 59; minds day;");
        x.person(0, 15);
        due("P17 the last", x.keeps(0), 60);
        x.put(0, 2, 59);
        due("P17 the first", x.keeps(0), 1);
        x.day();
        due("P17 now", x.keeps(0), 0);
        LeanedOut y = Checks.under("leans 1; holds 60; minds day;");
        y.person(0, 15);
        due("P17 not by then", y.keeps(0), -1);
        due("P17 none", y.keeps(1), -5);
        for (int bad : WRONG) due("P17 none", y.keeps(bad), -5);
        due("P17 in thought", y.count(2), 0);
    }
}
