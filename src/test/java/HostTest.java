/** Promises 34 to 38: the host. */
public final class HostTest {
    private static final int LEAST = Integer.MIN_VALUE, MOST = Integer.MAX_VALUE;
    private static final int[] NO_SHEET = {-1, 4, LEAST, MOST};

    public static void main(String[] args) {
        sheet();
        cell();
        copy();
        copyRefused();
        peopleBy();
        peopleByRefused();
        taken();
        Checks.end("HostTest");
    }

    private static void due(String call, long got, long want) {
        Checks.due(call, got, want);
    }

    /** What a cell holds is told by who comes by it: KIND and MORE, at the window of the cell behind. */
    private static void holds(LeanedOut x, int s, int sort, int i, int kindMore, int window) {
        int p = x.count(0);
        due("P37 one", x.peopleBy(s, sort, i, 1), 1);
        due("kind at " + i, 10 * x.told(p, 3) + x.told(p, 4), kindMore);
        due("window at " + i, x.told(p, 0), window);
    }

    private static void sheet() {
        LeanedOut x = new LeanedOut();
        for (int bad : NO_SHEET) due("P34 sheet", x.sheet(bad, 0, 1), -2);
        for (int bad : new int[] {-2, 3, LEAST, MOST}) due("P34 sort", x.sheet(0, bad, 1), -2);
        for (int bad : new int[] {41, MOST}) due("P34 n", x.sheet(0, 0, bad), -2);
        for (int bad : new int[] {-1, LEAST}) due("P34 n", x.sheet(0, 0, bad), -14);
        due("P34 sort first", x.sheet(0, 3, -1), -2);
        due("P34 still missing", x.cell(0, 0, 1), -11);
        for (int n : new int[] {LEAST, -1, 0, 41, MOST}) due("P34 missing", x.sheet(0, -1, n), 1);
        due("P34", x.sheet(0, 0, 40), 1);
        due("P34 the last", x.cell(0, 39, 1), 1);
        due("P34 behind", x.cell(0, 40, 1), -12);
        due("P34 empty", x.sheet(0, 2, 0), 1);
        due("P34 empty", x.cell(0, 0, 1), -12);
        Checks.row(x, 1, 0, 5, 6);
        x.sheet(1, 0, 2);
        x.person(50, 15);
        due("P34 all 0", x.judge(1, 0), -1);
        due("P34 refused: stays", x.sheet(1, 0, 41), -2);
        due("P34 refused: stays", x.judge(1, 0), -1);
        due("P34 missing", x.sheet(1, -1, 2), 1);
        due("P34 missing", x.judge(1, 0), -11);
    }

    private static void cell() {
        LeanedOut x = new LeanedOut();
        for (int bad : NO_SHEET) due("P35 sheet", x.cell(bad, 0, 1), -2);
        due("P35 missing", x.cell(0, 99, 1), -11);
        for (int sort = 0; sort < 3; sort++) {
            x.sheet(sort, sort, 3);
            for (int bad : new int[] {-1, 3, LEAST, MOST}) due("P35 place", x.cell(sort, bad, 1), -12);
            due("P35", x.cell(sort, 0, 65536 + 256 + 47), 1);
            due("P35", x.cell(sort, 1, 65536 + 11 + sort * 100), 1);
        }
        holds(x, 0, 0, 0, 47, 0);
        x.cell(1, 0, 65536 + 47);
        holds(x, 1, 1, 0, 47, 1);
        due("P35 an int is as it is", x.peopleBy(2, 2, 0, 1), 0);
        x.cell(2, 0, 47);
        due("P35 an int is as it is", x.peopleBy(2, 2, 0, 1), 0);
        x.cell(2, 1, 211);
        holds(x, 2, 2, 0, 47, 2);
        Checks.row(x, 0, 0, 1, 315 - 256);
        due("P35 a byte of 59 is window 0", x.peopleBy(0, 0, 0, 1), 0);
        Checks.row(x, 0, 0, 1, 213);
        due("P35 bytes have a sign", x.peopleBy(0, 0, 0, 1), 0);
        Checks.row(x, 1, 1, 1, 65536 + 1503);
        holds(x, 1, 1, 0, 1, 15);
    }

    private static void copy() {
        LeanedOut x = new LeanedOut();
        Checks.row(x, 0, 2, 1, 310, 2, 410, 3);
        x.sheet(1, 2, 4);
        due("P36", x.copy(0, 1, 1, 0, 4), 4);
        due("P36 nothing", x.copy(0, 5, 1, 4, 0), 0);
        due("P36 nothing", x.copy(0, 0, 1, 0, 0), 0);
        x.cell(1, 0, 9);
        holds(x, 0, 2, 0, 1, 3);
        due("P36 as it was", x.peopleBy(1, 2, 1, 1), 1);
        due("P36", x.told(1, 4), 2);
        due("P36", x.told(1, 0), 4);
        LeanedOut y = new LeanedOut();
        Checks.row(y, 0, 0, 1, 10, 2, 11, 3, 12);
        due("P36 its own, forth", y.copy(0, 0, 0, 2, 4), 4);
        due("P36", y.peopleBy(0, 0, 4, 1), 1);
        due("P36 as they were", y.told(0, 4), 2);
        due("P36 as they were", y.told(0, 1), 11);
        Checks.row(y, 0, 0, 1, 10, 2, 110, 3, 112);
        y.put(0, 0, 9);
        due("P36 its own, back", y.copy(0, 2, 0, 0, 4), 4);
        due("P36", y.peopleBy(0, 0, 0, 1), 1);
        due("P36 as they were", y.told(1, 4), 2);
        due("P36 as they were", y.peopleBy(0, 0, 2, 1), 0);
    }

    private static void copyRefused() {
        LeanedOut x = new LeanedOut();
        x.sheet(0, 0, 5);
        x.sheet(1, 0, 3);
        x.sheet(2, 1, 3);
        for (int bad : NO_SHEET) {
            due("P36 sheet", x.copy(bad, 0, 3, 0, 1), -2);
            due("P36 other", x.copy(3, 0, bad, 0, 1), -2);
        }
        due("P36 missing", x.copy(3, 9, 0, 9, 1), -11);
        due("P36 missing", x.copy(0, 9, 3, 9, 1), -11);
        due("P36 sorts ahead of places", x.copy(0, 9, 2, 0, 1), -13);
        int[][] out = {{-1, 0, 1}, {0, -1, 1}, {0, 0, -1}, {5, 0, 1}, {0, 3, 1}, {0, 0, 4}, {3, 0, 3}, {6, 0, 0},
            {0, 4, 0}, {LEAST, 0, 1}, {0, LEAST, 1}, {0, 0, LEAST}, {MOST, 0, 1}, {0, MOST, 1}, {0, 0, MOST},
            {1, 0, MOST}, {MOST, MOST, MOST}, {LEAST, LEAST, LEAST}};
        for (int[] o : out) due("P36 outside", x.copy(0, o[0], 1, o[1], o[2]), -12);
        due("P36 to the ends", x.copy(0, 2, 1, 0, 3), 3);
    }

    private static void peopleBy() {
        LeanedOut x = new LeanedOut();
        Checks.row(x, 0, 2, 77, 12, 110, 60, 210, 23, 1103, 5, 111, 34, 310);
        due("P37 three of five", x.peopleBy(0, 2, 1, 5), 3);
        int[][] came = {{1, 10, 1, 2}, {11, 3, 2, 3}, {3, 10, 3, 4}};
        for (int p = 0; p < 3; p++) {
            due("P37 window", x.told(p, 0), came[p][0]);
            due("P37 look", x.told(p, 1), came[p][1]);
            due("P37 kind", x.told(p, 3), came[p][2]);
            due("P37 more", x.told(p, 4), came[p][3]);
        }
        due("P37 none asked", x.peopleBy(0, 2, 1, 0), 0);
        due("P37 none asked, outside", x.peopleBy(0, 2, 99, 0), 0);
        due("P37 past the end", x.peopleBy(0, 2, 9, 2), -12);
        due("P37 half of two", x.peopleBy(0, 2, 10, 1), -12);
        Checks.row(x, 1, 1, 1, 412, 2, 512, 3, 612, 4, 712, 5, 812);
        due("P37 as many as have room", x.peopleBy(1, 1, 0, 5), 3);
        due("P37 six", x.count(0), 6);
        LeanedOut y = new LeanedOut();
        Checks.row(y, 1, 1, 1, 412, 2, 512, 3, 612, 4, 712, 5, 812, 6, 912);
        due("P37 six at once", y.peopleBy(1, 1, 0, 6), 6);
    }

    private static void peopleByRefused() {
        LeanedOut x = new LeanedOut();
        Checks.row(x, 0, 2, 1, 110, 2, 210, 3);
        for (int bad : NO_SHEET) due("P37 sheet", x.peopleBy(bad, 2, 0, 1), -2);
        for (int bad : new int[] {-1, 3, LEAST, MOST}) due("P37 sort", x.peopleBy(0, bad, 0, 1), -2);
        for (int bad : new int[] {-1, 7, LEAST, MOST}) due("P37 n", x.peopleBy(0, 2, 0, bad), -2);
        due("P37 bad ahead of missing", x.peopleBy(1, 2, 0, 7), -2);
        due("P37 missing", x.peopleBy(1, 2, 0, 1), -11);
        due("P37 sort", x.peopleBy(0, 1, 99, 1), -13);
        for (int bad : new int[] {-1, 5, LEAST, MOST, MOST - 1}) due("P37 from", x.peopleBy(0, 2, bad, 1), -12);
        due("P37 none came", x.count(0), 0);
        due("P37 what stood ahead came", x.peopleBy(0, 2, 0, 3), -12);
        due("P37 what stood ahead came", x.count(0), 2);
    }

    private static void taken() {
        LeanedOut x = new LeanedOut();
        boolean[][] is = {
            {true, false, false, false, false, false},
            {true, true, false, false, false, false},
            {true, false, true, false, false, false},
            {true, true, false, true, false, false},
            {true, false, true, false, true, false},
            {true, false, false, false, false, true}};
        for (int p = 0; p < 5; p++) x.person(10 * p, 100 * p + 15);
        due("P38 none yet", x.taken(5, 0), -11);
        due("P38 none yet", x.taken(11, 6), -11);
        due("P38 none ahead of its kind", x.taken(5, 6), -11);
        x.person(50, 515);
        x.put(2, 2, 99);
        due("day", x.day(), 4);
        for (int p = 0; p < 6; p++) {
            for (int k = 0; k < 6; k++) {
                due("P38 " + p + " as " + k, x.taken(p, k), is[p][k] ? p : -13);
                due("P38 kept isn't one", x.taken(6 + p, k), -13);
            }
            due("P38 one isn't whether", x.taken(p, 6), -13);
            due("P38 kept", x.taken(6 + p, 6), p == 2 ? 1 : 0);
        }
        for (int bad : new int[] {-1, 7, LEAST, MOST}) due("P38 kind", x.taken(99, bad), -2);
        for (int bad : new int[] {-1, 12, LEAST, MOST}) due("P38 i", x.taken(bad, 0), -12);
    }
}
