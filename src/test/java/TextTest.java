/** Promises 4 and 5: the tape, texts, their faults, what they say. */
public final class TextTest {
    public static void main(String[] args) {
        feed();
        faults();
        open();
        says();
        names();
        firstLaw();
        full();
        tapeEmpties();
        Checks.end("TextTest");
    }

    private static void due(String call, long got, long want) {
        Checks.due(call, got, want);
    }

    private static void feed() {
        LeanedOut x = new LeanedOut();
        due("P4 one", x.feed(1, 0, 0, 0, 0, 0), 1);
        due("P4 five", x.feed(5, 255, 1, 2, 3, 4), 6);
        for (int bad : new int[] {0, 6, -1, Integer.MIN_VALUE, Integer.MAX_VALUE}) {
            due("P4 n", x.feed(bad, 0, 0, 0, 0, 0), -2);
        }
        for (int bad : new int[] {-1, 256, Integer.MIN_VALUE, Integer.MAX_VALUE}) {
            due("P4 a", x.feed(1, bad, 0, 0, 0, 0), -2);
            due("P4 b", x.feed(1, 0, bad, 0, 0, 0), -2);
            due("P4 c", x.feed(1, 0, 0, bad, 0, 0), -2);
            due("P4 d", x.feed(1, 0, 0, 0, bad, 0), -2);
            due("P4 e", x.feed(1, 0, 0, 0, 0, bad), -2);
        }
        due("P4 none came", x.count(5), 6);
        for (int i = 0; i < 30; i++) x.feed(5, 32, 32, 32, 32, 32);
        due("P4", x.count(5), 156);
        due("P4 full", x.feed(5, 32, 32, 32, 32, 32), -4);
        due("P4 none came", x.count(5), 156);
        due("P4 bad ahead of full", x.feed(5, 32, 32, 32, 32, 300), -2);
        due("P4 to the end", x.feed(4, 32, 32, 32, 32, 32), 160);
        due("P4 full", x.feed(1, 32, 32, 32, 32, 32), -4);
        due("P5 the fault is the first byte", x.text(), -100);
        due("P5 empty", x.count(5), 0);
        for (int i = 0; i < 32; i++) x.feed(5, 32, 10, 32, 32, 32);
        due("P5 fault at the size", x.text(), -260);
    }

    private static void fault(String s, int place) {
        LeanedOut x = new LeanedOut();
        due("P5 fault of \"" + s + "\"", Checks.text(x, s), -100 - place);
        due("P5 no text", x.count(3), 1);
        due("P5 the tape is empty", x.count(5), 0);
    }

    private static void faults() {
        fault("", 0);
        fault("  ", 2);
        fault("holds 1;", 0);
        fault("leans", 5);
        fault("leans ", 6);
        fault("leans 1", 7);
        fault("leans 1;", 8);
        fault("leans ;", 6);
        fault("leans 1; leans 1;", 9);
        fault("leans 1; holds 1; minds 1", 25);
        fault("leans 1; holds 1; minds 1; ;", 27);
        fault("leans 1; holds 1; minds 1; leans", 27);
        fault("leans 12345; ", 6);
        fault("leans 00001; ", 6);
        fault("leans 1 12345", 8);
        fault("leans1;holds2;minds3;;", 21);
        fault("leansacross;", 0);
        fault("leans leans;", 6);
        fault("leans leanx;", 6);
        fault("leans Lean;", 6);
        fault("leans leanz;", 6);
        fault("leans alean;", 6);
        fault("leans xean;", 6);
        fault("xeans 1;", 0);
        fault("leans lea;", 6);
        fault("lean 1;", 0);
        fault("leans lean across;", 11);
        fault("leans 1A;", 7);
        fault("leans 1\t;", 7);
        fault("leans 1 > 2;", 8);
        fault("leans (1;", 8);
        fault("leans (1", 8);
        fault("leans 1);", 7);
        fault("leans ();", 7);
        fault("leans 1 + ;", 10);
        fault("leans + 1;", 6);
        fault("leans 1 - - 1; x", 15);
        fault("leans 1 * not 1;", 10);
        fault("leans - not 1;", 8);
        fault("leans 1 + not 1;", 10);
        fault("leans 1 < not 1;", 10);
        fault("leans 1 < 2 < 3;", 12);
        fault("leans 1 < 2 = 3;", 12);
        fault("leans 1 = 2 and 3 = 4 = 5;", 22);
        fault("leans not;", 9);
        fault("leans not not and;", 14);
        fault("leans 1 or;", 10);
        fault("leans 1 and or 1;", 12);
        fault("leans 1 not 1;", 8);
        fault("leans 1 (2);", 8);
        fault("leans lean(2);", 10);
        fault("leans and;", 6);
        fault("\u00ff", 0);
        fault("leans 1; \u0080", 9);
    }

    private static void open() {
        fault("leans ((((((1))))));", 11);
        fault("leans ------1;", 11);
        fault("leans not not not not not not 1;", 26);
        fault("leans not(-(-(1", 13);
        fault("leans not(-(--1", 13);
        fault("leans not(-(1+(1+(", 17);
        fault("leans not(-((not", 13);
        LeanedOut x = new LeanedOut();
        due("P5", Checks.text(x, "leans (((((1)))))+(((((1))))); holds -----1--1*-----1; minds not not not not not 1 and not 1;"), 1);
        due("P5", Checks.text(x, "leans -(-(-1)-(-(1))+-(-2)); holds not(not(1)and not(1)); minds 1;"), 2);
        due("P5", Checks.text(x, "leans(not(not(1<2)or not not 1)=1); holds -(-(-2)); minds 1;"), 3);
    }

    private static void says(String e, int want) {
        LeanedOut x = new LeanedOut();
        due("P5 \"" + e + "\"", Checks.text(x, "leans " + e + ";holds 1;minds 1;"), 1);
        x.force(1);
        x.person(0, 15);
        due("P7 \"" + e + "\"", x.asks(0, 0), want);
    }

    private static void says() {
        says("1+2*3", 7);
        says("(1+2)*3", 9);
        says("10-3-4", 3);
        says("-3+5", 2);
        says("-3*-3", 9);
        says("2*-3", -6);
        says("5--3", 8);
        says("0009", 9);
        says("7", 7);
        says("1<2", 1);
        says("2<2", 0);
        says("2=2", 1);
        says("2=3", 0);
        says("1+1=2", 1);
        says("3*(1<2)", 3);
        says("5 and 7", 1);
        says("1 and 1", 1);
        says("1 and 2 and 0", 0);
        says("0 or 0 or 3", 1);
        says("2*3*4", 24);
        says("1 or 1", 1);
        says("5 and 0", 0);
        says("0 or 7", 1);
        says("0 or 0", 0);
        says("1 or 0 and 0", 1);
        says("(1 or 0) and 0", 0);
        says("not 0", 1);
        says("not 5", 0);
        says("not not 5", 1);
        says("not 1 or 1", 1);
        says("not 0 and 0", 0);
        says("not 1 = 2", 1);
        says("-1 and 1", 1);
        says("- - - - - 4", -4);
        says("9999*9999*9999", -99);
        says("1\n+\n1", 2);
        // 65536 times 65536 is 2 to the 32nd: nothing is left of it.
        says("4096*16*4096*16", 0);
        says("4096*16*4096*8<0", 1);
        says("-(4096*16*4096*8)<0", 1);
    }

    private static void named(String name, LeanedOut x, int p, int want) {
        due("P5", Checks.text(x, "leans " + name + ";holds " + name + ";minds 0-" + name + ";"), x.count(3) - 1);
        int was = x.force(x.count(3) - 1);
        for (int part = 0; part < 2; part++) due("P7 " + name, x.asks(part, p), want);
        due("P7 " + name, x.asks(2, p), -want);
        x.force(was);
    }

    private static void names() {
        LeanedOut x = street();
        named("lean", x, 0, 34);
        named("across", x, 0, 6);
        named("beside", x, 0, 2);
        named("day", x, 0, 1);
        named("lookers", x, 0, 2);
        x = street();
        named("more", x, 0, 8);
        named("more", x, 1, 1);
        named("beside", x, 3, 0);
        named("beside", x, 1, 0);
        named("lookers", x, 1, 0);
    }

    /** 0 at window 1 between two who are kept; 3 and 4 over there, 3 beside 4, 4 kept at the end beside 9. */
    private static LeanedOut street() {
        LeanedOut x = new LeanedOut();
        x.person(8, 117);
        x.person(1, 19);
        x.person(2, 215);
        x.person(3, 1801);
        x.person(4, 1001);
        x.person(5, 914);
        x.put(1, 2, 99);
        x.put(2, 2, 99);
        x.put(4, 2, 99);
        x.put(5, 2, 99);
        due("day", x.day(), 2 | 4 | 16 | 32);
        x.put(0, 2, 34);
        return x;
    }

    private static void firstLaw() {
        LeanedOut x = new LeanedOut();
        x.person(0, 117);
        due("TEXT 0 leans", x.asks(0, 0), -1);
        due("TEXT 0 holds", x.asks(1, 0), 60);
        due("TEXT 0 minds", x.asks(2, 0), 0);
        x.person(0, 17);
        x.put(1, 2, 99);
        x.day();
        due("TEXT 0 minds", x.asks(2, 0), 1);
    }

    private static void full() {
        LeanedOut x = new LeanedOut();
        for (int t = 1; t < 6; t++) due("P5", Checks.text(x, "leans " + t + ";holds 1;minds 1;"), t);
        due("P5 texts", x.count(3), 6);
        Checks.tape(x, "nonsense");
        due("P5 full ahead of the fault", x.text(), -4);
        due("P5 the tape stays", x.count(5), 8);
        x.person(0, 15);
        for (int t = 1; t < 6; t++) {
            x.force(t);
            due("P5 each its own", x.asks(0, 0), t);
        }
    }

    /** A fault leaves nothing behind, for the tape or for the texts. */
    private static void tapeEmpties() {
        LeanedOut x = new LeanedOut();
        due("P5", Checks.text(x, "leans 1+2*3;holds"), -117);
        due("P5", Checks.text(x, "leans 4;holds 5;minds 6;"), 1);
        x.person(0, 15);
        x.force(1);
        for (int part = 0; part < 3; part++) due("P5 part", x.asks(part, 0), 4 + part);
        due("P5 longest", Checks.text(x, "leans 1" + "+1".repeat(66) + ";holds 2;minds 3;  "), 2);
        due("P4 nothing left", x.count(5), 0);
        x.force(2);
        due("P5 longest", x.asks(0, 0), 67);
        due("P5 longest", x.asks(2, 0), 3);
    }
}
