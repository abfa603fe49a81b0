/** Promises 18 to 22: what is best. */
public final class BestTest {
    private static final int[] WRONG = {-1, 6, 100, Integer.MIN_VALUE, Integer.MAX_VALUE};
    private static final int[] NEITHER = {-1, 2, Integer.MIN_VALUE, Integer.MAX_VALUE};

    public static void main(String[] args) {
        turn();
        safe();
        safeStays();
        warn();
        untangle();
        untangleThree();
        strain();
        Checks.end("BestTest");
    }

    private static void due(String call, long got, long want) {
        Checks.due(call, got, want);
    }

    private static void turn() {
        LeanedOut x = new LeanedOut();
        due("P18 none", x.turn(0), -1);
        due("P18 none", x.turn(1), 0);
        for (int bad : NEITHER) due("P18 bad", x.turn(bad), -2);
        x.person(0, 3 * 100 + 15);
        due("P18 nobody there", x.turn(0), -1);
        x.person(0, 17 * 100 + 3);
        due("P18 the first towards the other", x.turn(0), 17);
        due("P18 one", x.turn(1), 1);
        due("P18 in thought", x.told(0, 1), 15);
        x.put(0, 2, 99);
        x.day();
        due("P18 also one who is kept", x.turn(0), 17);
        x.crane(0, 17);
        due("P18 no more than so", x.turn(0), -1);
        due("P18 as so", x.turn(1), 1);
        x.person(0, 5 * 100 + 11);
        x.person(0, 18 * 100 + 9);
        due("P18 not the third to the fourth, who looks elsewhere", x.turn(0), -1);
        x.crane(3, 5);
        due("P18 the third to the fourth", x.turn(0), 218);
        due("P18 two", x.turn(1), 2);
        LeanedOut z = new LeanedOut();
        z.person(0, 1503);
        z.person(0, 15);
        due("P18 the first to the first window", z.turn(0), 0);
        due("P18 one", z.turn(1), 1);
        LeanedOut six = new LeanedOut();
        for (int p = 0; p < 6; p++) six.person(0, p < 3 ? 100 * p + 19 : 1000 + 100 * (p - 3) + 9);
        due("P18 six who look past each other", six.turn(0), -1);
        six.crane(5, 2);
        due("P18 the third to the sixth", six.turn(0), 212);
        // Two who look at one, who looks past both: of like ones the first window.
        LeanedOut y = new LeanedOut();
        y.person(0, 1000);
        y.person(0, 19);
        y.person(0, 1200);
        due("P18 the second to the first", y.turn(0), 110);
        y.crane(0, 9);
        due("P18 the second to the third", y.turn(0), 112);
        y.crane(2, 9);
        y.crane(1, 0);
        due("P18 none looks there", y.turn(0), -1);
        y.crane(0, 0);
        y.crane(1, 11);
        due("P18 the second to the first", y.turn(0), 110);
    }

    private static void safe() {
        LeanedOut x = Checks.under("leans 5 - across; holds 20; minds 1;");
        x.person(0, 10);
        // Leans 5 at place 0, 0 from place 5 on: kept never.
        due("P19 where", x.safe(0, 0), 5);
        due("P19 how long", x.safe(0, 1), 61);
        due("P19 in thought", x.told(0, 0), 0);
        x.put(0, 2, 20);
        x.person(0, 519);
        due("P19 somebody is there", x.safe(0, 0), 6);
        x.put(0, 1, 19);
        // At 9 one leans 5; at 0 4 less: 0 is its own.
        due("P19 its own", x.safe(0, 0), 0);
        LeanedOut y = Checks.under("leans 10 - across; holds 20; minds 1;");
        y.person(0, 19);
        due("P19 own is best", y.safe(0, 0), 0);
        due("P19 21 days", y.safe(0, 1), 21);
        y.put(0, 0, 3);
        y.person(0, 10);
        due("P19 next best", y.safe(0, 0), 1);
        due("P19 11 days", y.safe(0, 1), 11);
        y.person(0, 1803);
        due("P19 the other side", y.safe(2, 0), 19);
        for (int bad : NEITHER) due("P19 what", y.safe(0, bad), -7);
        for (int bad : WRONG) due("P19 none", y.safe(bad, 0), -5);
        due("P19 none first", y.safe(3, 2), -5);
    }

    /** One who is kept is so wherever: the first window that is free or one's own; 60 days aren't 61. */
    private static void safeStays() {
        LeanedOut x = new LeanedOut();
        x.person(0, 419);
        x.person(0, 10);
        x.put(0, 2, 99);
        x.day();
        due("P19 kept", x.safe(0, 0), 1);
        due("P19 kept", x.safe(0, 1), 0);
        LeanedOut y = Checks.under("leans 1; holds 59; minds 1;");
        y.person(0, 419);
        due("P19 all alike", y.safe(0, 0), 0);
        due("P19 the last day", y.safe(0, 1), 60);
        LeanedOut z = Checks.under("leans 1; holds 60; minds 1;");
        z.person(0, 419);
        due("P19 one behind the last", z.safe(0, 1), 61);
    }

    private static void warn() {
        LeanedOut x = Checks.under("leans 1; holds 20 - 9*beside; minds 1;");
        due("P20 nobody", x.warn(3, 0), -1);
        due("P20 nobody", x.warn(3, 1), 0);
        x.person(0, 110);
        x.person(0, 310);
        x.person(0, 210);
        x.put(0, 2, 12);
        x.put(1, 2, 12);
        x.put(2, 2, 19);
        // The third is kept behind 2 days, then the others' rails hold 11.
        due("P20 behind 1", x.warn(1, 0), -1);
        due("P20 behind 1", x.warn(1, 1), 0);
        due("P20 the third in time", x.warn(2, 0), 2);
        due("P20 nobody is kept", x.warn(2, 1), 0);
        due("P20 in thought", x.told(2, 2), 19);
        due("P20 in thought", x.count(2), 0);
        // Behind 9 days the first two are kept by themselves, and then the third, whose rail holds 2.
        due("P20 the third", x.warn(8, 0), 2);
        due("P20 none", x.warn(8, 1), 0);
        due("P20 now none", x.warn(0, 0), -1);
        due("P20 all in the end", x.warn(40, 0), -1);
        due("P20 all in the end", x.warn(40, 1), 3);
        due("P20 the first of the two", x.warn(10, 0), 0);
        due("P20", x.warn(10, 1), 2);
        due("day", x.day(), 0);
        due("day", x.day(), 4);
        due("P20 kept already", x.warn(0, 1), 1);
        due("P20 kept already", x.warn(0, 0), -1);
        due("P20 the others are kept in the next day", x.warn(1, 0), 0);
        due("P20 the first of like ones", x.warn(1, 1), 2);
        for (int bad : new int[] {-1, 41, Integer.MIN_VALUE, Integer.MAX_VALUE}) due("P20 n", x.warn(bad, 0), -2);
        LeanedOut y = Checks.under("leans 10; holds 30; minds 1;");
        for (int p = 0; p < 6; p++) y.person(0, 100 * p + 10);
        y.put(5, 2, 1);
        due("P20 from 0 on 30 days' lean is held", y.warn(3, 0), 5);
        due("P20 none", y.warn(3, 1), 0);
        due("P20 the fourth day is too many", y.warn(4, 0), -1);
        due("P20 six", y.warn(4, 1), 6);
        for (int bad : NEITHER) due("P20 what", x.warn(1, bad), -2);
    }

    private static void untangle() {
        LeanedOut x = new LeanedOut();
        due("P21 nobody", x.untangle(0, 0), 0);
        due("P21 nobody", x.untangle(1, 1), 0);
        for (int bad : NEITHER) {
            due("P21 side", x.untangle(bad, 0), -2);
            due("P21 what", x.untangle(0, bad), -2);
        }
        x.person(0, 418);
        x.person(0, 1105);
        x.person(0, 612);
        due("P21 those two cross, and the one over there the first", x.street(1), 2);
        due("P21 swapped", x.untangle(0, 0), 21);
        due("P21 one is left", x.untangle(0, 1), 1);
        due("P21 the other side has one", x.untangle(1, 0), 1);
        due("P21 as so", x.untangle(1, 1), 2);
        due("P21 in thought", x.told(0, 1), 18);
        LeanedOut y = new LeanedOut();
        y.person(0, 915);
        y.person(0, 115);
        y.person(0, 515);
        due("P21 all like: the first by digits", y.untangle(0, 0), 123);
        due("P21 none", y.untangle(0, 1), 0);
        due("P21 nobody on that side", y.untangle(1, 0), 0);
    }

    private static void untangleThree() {
        LeanedOut x = new LeanedOut();
        int[] looks = {12, 19, 15, 10, 17, 13};
        for (int p = 0; p < 6; p++) x.person(0, 100 * (p < 3 ? 2 * p : 5 + p - 3) + looks[p]);
        // Windows 0 2 4 5 6 7: looks are to be 10 12 13 15 17 19: of 4th, 1st, 6th, 3rd, 5th, 2nd.
        due("P21 six", x.untangle(0, 0), 416352);
        due("P21 none", x.untangle(0, 1), 0);
        LeanedOut y = new LeanedOut();
        y.person(0, 1008);
        y.person(0, 213);
        y.person(0, 1103);
        y.person(0, 1205);
        due("P21 the digits count those of the side alone", y.untangle(1, 0), 231);
        // The second goes from place 2 to place 3, the others to 0, 1, 2 from beyond 2: it crosses all.
        due("P21 as many are left", y.untangle(1, 1), 3);
        LeanedOut z = new LeanedOut();
        z.person(0, 19);
        z.person(0, 112);
        z.person(0, 215);
        due("P21 the first's look goes, too", z.untangle(0, 0), 231);
        due("P21 the first's look goes, too", z.untangle(0, 1), 0);
    }

    private static void strain() {
        LeanedOut x = Checks.under("leans 1; holds 60; minds 1;");
        x.person(20, 110);
        x.person(54, 210);
        x.person(50, 310);
        due("P22", x.strain(0, 0), 0);
        due("P22", x.strain(0, 1), 1);
        x.put(0, 2, 42);
        due("P22", x.strain(0, 0), 3);
        due("P22", x.strain(0, 1), 5);
        x.put(0, 2, 70);
        due("P22", x.strain(0, 0), 1);
        due("P22", x.strain(0, 1), 1);
        x.put(1, 2, 6);
        due("P22 over", x.strain(1, 0), 3);
        due("P22 over", x.strain(1, 1), 2);
        due("P22 holds 0", x.strain(2, 0), LeanedOut.NO);
        due("P22 holds 0", x.strain(2, 1), LeanedOut.NO);
        x.put(2, 2, 5);
        due("P22 holds 0", x.strain(2, 0), LeanedOut.NO);
        due("P22 holds 0", x.strain(2, 1), LeanedOut.NO);
        x.person(51, 410);
        x.put(3, 2, 7);
        due("P22 holds 1", x.strain(3, 0), 7);
        due("P22 holds 1", x.strain(3, 1), 1);
        for (int bad : NEITHER) due("P22 part", x.strain(0, bad), LeanedOut.NO);
        for (int bad : WRONG) due("P22 none", x.strain(bad, 0), LeanedOut.NO);
    }
}
