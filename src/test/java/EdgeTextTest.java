import java.util.Arrays;

/** The boundary cases of promises 4 and 5 and of the Terms TEXT, TOKENS, FAULT. */
public final class EdgeTextTest {
    private static final String REST = ";holds 1;minds 1;";

    public static void main(String[] args) {
        feedOneByOne();
        feedFull();
        bytesAhead();
        bytesForOne();
        bytesBehindOne();
        bytesBehindAll();
        asLongAsCanBe();
        tooLong();
        words();
        endsTooEarly();
        order();
        open();
        closed();
        openOfAll();
        sixTexts();
        nothingLeftOfAFault();
        Checks.end("EdgeTextTest");
    }

    private static void due(String words, long got, long want) {
        Checks.due(words, got, want);
    }

    /** The place of the fault, or -1 if the tape is a text. */
    private static void fault(String tape, int want) {
        LeanedOut x = new LeanedOut();
        int got = Checks.text(x, tape);
        due("FAULT of \"" + tape + "\"", got, want < 0 ? 1 : -100 - want);
        due("TEXTS behind \"" + tape + "\"", x.count(3), want < 0 ? 2 : 1);
        due("THE TAPE is empty then", x.count(5), 0);
    }

    private static void feedOneByOne() {
        for (int n = 1; n <= 5; n++) {
            LeanedOut x = new LeanedOut();
            due("The first n of five", x.feed(n, '!', '!', '!', '!', '!'), n);
            due("come behind THE TAPE's", x.feed(6 - n, 0, 255, 0, 255, 0), 6);
            for (int k = 0; k < 5; k++) {
                int[] b = {'(', '(', '(', '(', '('};
                b[k] = '!';
                LeanedOut y = new LeanedOut();
                Checks.tape(y, "leans ");
                due("The first n of five", y.feed(n, b[0], b[1], b[2], b[3], b[4]), 6 + n);
                // The wrong byte is the fault if it came, else the text ends too early.
                due("in their order", y.text(), -100 - 6 - Math.min(k, n));
            }
        }
        LeanedOut z = new LeanedOut();
        for (int k = 0; k < 5; k++) {
            for (int bad : new int[] {-1, 256}) {
                int[] b = {0, 255, 0, 255, 0};
                b[k] = bad;
                for (int n = 1; n <= 5; n++) due("any of the five", z.feed(n, b[0], b[1], b[2], b[3], b[4]), -2);
            }
        }
        for (int n : new int[] {0, 6, -1, -5}) due("n (1 .. 5)", z.feed(n, 1, 1, 1, 1, 1), -2);
        due("none came", z.count(5), 0);
    }

    private static void feedFull() {
        for (int left = 0; left <= 5; left++) {
            for (int n = 1; n <= 5; n++) {
                LeanedOut x = new LeanedOut();
                Checks.tape(x, " ".repeat(160 - left));
                due("FULL: they have not all room", x.feed(n, 32, 32, 32, 32, 32), n <= left ? 160 - left + n : -4);
                due("none comes", x.count(5), n <= left ? 160 - left + n : 160 - left);
                due("BAD ahead of FULL", x.feed(n, 32, 32, 32, 32, -1), -2);
                due("BAD ahead of FULL", x.feed(6, 32, 32, 32, 32, 32), -2);
            }
        }
        // A text that needs the whole tape, to the last byte.
        String s = "leans 1;holds 2;minds 3" + "+0".repeat(68) + ";";
        due("160 bytes at most", s.length(), 160);
        LeanedOut x = Checks.under(s);
        x.person(0, 10);
        due("160 bytes at most", x.asks(2, 0), 3);
        fault(s.substring(0, 159) + "!", 159);
        fault(s.substring(0, 158) + "!;", 158);
        fault(s.substring(0, 159), 159);
        fault(s.substring(0, 159) + " ", 160);
        LeanedOut y = new LeanedOut();
        Checks.tape(y, s);
        due("one more", y.feed(1, 32, 32, 32, 32, 32), -4);
        due("the tape is as it was", y.text(), 1);
    }

    private static boolean isBlank(int b) {
        return b == 32 || b == 10;
    }

    private static boolean isDigit(int b) {
        return b >= '0' && b <= '9';
    }

    private static void bytesAhead() {
        for (int b = 0; b < 256; b++) {
            fault((char) b + "leans 1" + REST, isBlank(b) ? -1 : 0);
            fault((char) b + " leans 1" + REST, isBlank(b) ? -1 : 0);
        }
    }

    private static void bytesForOne() {
        for (int b = 0; b < 256; b++) {
            int want = 6;
            if (isBlank(b) || b == '(' || b == '-') want = 7;
            if (isDigit(b)) want = -1;
            fault("leans " + (char) b + REST, want);
        }
    }

    private static void bytesBehindOne() {
        for (int b = 0; b < 256; b++) {
            int want = 7;
            if (isBlank(b) || b == ';') want = 8;
            if (isDigit(b) || "+-*<=".indexOf(b) >= 0) want = -1;
            fault("leans 1" + (char) b + "1" + REST, want);
            // What stands behind a name makes another word of it, or a sign.
            want = 10;
            if (isBlank(b) || b == ';') want = 11;
            if ("+-*<=".indexOf(b) >= 0) want = -1;
            if (b >= 'a' && b <= 'z') want = 6;
            fault("leans lean" + (char) b + "1" + REST, want);
        }
    }

    private static void bytesBehindAll() {
        for (int b = 0; b < 256; b++) {
            fault("leans 1" + REST + (char) b, isBlank(b) ? -1 : 24);
            fault("leans 1" + REST + "\n" + (char) b, isBlank(b) ? -1 : 25);
        }
    }

    private static void asLongAsCanBe() {
        fault("leans1;holds1;minds1;", -1);
        fault("leans12;holds lean;minds lean*1and 1or not 1;", -1);
        fault("leans 1and 1;holds 1or lean;minds(1)and(1);", -1);
        fault("leansnot 1" + REST, 0);
        fault("leans not1" + REST, -1);
        fault("leans notlean" + REST, 6);
        fault("leans leanand 1" + REST, 6);
        fault("leans 1 andlean" + REST, 8);
        fault("leans 1 andnot 1" + REST, 8);
        fault("leans 1 and not 1" + REST, -1);
        fault("leans le an" + REST, 6);
        fault("leans 1 2" + REST, 8);
        fault("leans 12" + REST, -1);
        fault("le ans 1" + REST, 0);
        fault("leans day\n\n +\n  1 " + REST, -1);
        fault("leans 1;;holds 1;minds 1;", 8);
        fault("leans 1;holds 1;minds 1;;", 24);
    }

    private static void tooLong() {
        fault("leans 9999" + REST, -1);
        fault("leans 0000" + REST, -1);
        fault("leans 10000" + REST, 6);
        fault("leans 00000" + REST, 6);
        fault("leans 1234 1" + REST, 11);
        fault("leans 1+99999+1" + REST, 8);
        // As an int the first of these would be 1, the second 0.
        fault("leans 4294967297" + REST, 6);
        fault("leans 1" + "0".repeat(152), 6);
        fault("leans " + "0".repeat(154), 6);
        fault("leans 1;holds 12345;minds 1;", 14);
        fault("leans 1;holds 1;minds 12345;", 22);
        fault("leans 1;holds 1;minds 1;12345", 24);
        fault("12345 leans 1" + REST, 0);
    }

    private static void words() {
        String[] names = {"lean", "across", "beside", "day", "lookers", "more"};
        String[] keys = {"leans", "holds", "minds", "and", "or", "not"};
        for (String name : names) {
            fault("leans " + name + REST, -1);
            fault("leans 1;holds " + name + ";minds " + name + ";", -1);
            fault("leans " + name + "s;", 6);
            fault("leans " + name.substring(1) + ";", 6);
            fault("leans " + name.substring(0, name.length() - 1) + ";", 6);
            fault("leans " + name.substring(0, 1).toUpperCase() + name.substring(1) + ";", 6);
            fault("leans 1 " + name + REST, 8);
            fault(name + " 1" + REST, 0);
        }
        for (String key : keys) {
            boolean isNot = key.equals("not"), joins = key.equals("and") || key.equals("or");
            fault("leans " + key + " 1" + REST, isNot ? -1 : 6);
            fault("leans 1 " + key + " 1" + REST, joins ? -1 : 8);
            fault("leans 1 + " + key + " 1" + REST, 10);
            fault("leans 1 < " + key + " 1" + REST, 10);
            fault("leans 1 * " + key + " 1" + REST, 10);
            fault("leans - " + key + " 1" + REST, 8);
            fault("leans 1 and " + key + " 1" + REST, isNot ? -1 : 12);
            fault("leans 1 or " + key + " 1" + REST, isNot ? -1 : 11);
            fault("leans not " + key + " 1" + REST, isNot ? -1 : 10);
            fault("leans (" + key + " 1)" + REST, isNot ? -1 : 7);
            fault("leans 1" + REST + key, 24);
            if (!key.equals("leans")) fault(key + " 1;", 0);
            if (!key.equals("holds")) fault("leans 1;" + key + " 1;", 8);
            if (!key.equals("minds")) fault("leans 1;holds 1;" + key + " 1;", 16);
        }
        fault("leans lien" + REST, 6);
        fault("leans {" + REST, 6);
        fault("leans `" + REST, 6);
    }

    private static void endsTooEarly() {
        String s = "leans(1+-lean)*day<not";
        String all = "leans ( 1 + - lean ) * day < 2 and not more = 1 or 3 ; holds 1 ; minds - ( 2 ) ;";
        for (int n = 0; n < all.length(); n++) {
            // Cut within a word the rest may be no word, and where it stands is another word's place.
            if (n > 0 && Character.isLetter(all.charAt(n)) && Character.isLetter(all.charAt(n - 1))) continue;
            fault(all.substring(0, n), n);
            fault(all.substring(0, n) + " \n ", n + 3);
        }
        fault(all, -1);
        fault(s, 19);
        fault("", 0);
        fault("\n", 1);
        fault(" ".repeat(160), 160);
    }

    /** The first fault is told, of whatever sort. */
    private static void order() {
        fault("leans 1 ) !" + REST, 8);
        fault("leans ! )" + REST, 6);
        fault("leans 1 1 99999" + REST, 8);
        fault("leans 99999 1 1" + REST, 6);
        fault("leans ((((((( x", 11);
        fault("leans x (((((((", 6);
        fault("leans 1;holds ;minds ;", 14);
        fault("leans 1;minds 1;holds 1;", 8);
        fault("holds 1;leans 1;minds 1;", 0);
        fault("leans 1;holds 1;holds 1;minds 1;", 16);
        fault("leans 1;holds 1;minds 1;leans 1;", 24);
        fault("leans 1<2<3" + REST, 9);
        fault("leans 1=2<3" + REST, 9);
        fault("leans (1<2)<3" + REST, -1);
        fault("leans 1<(2<3)" + REST, -1);
        fault("leans 1<2 and 2<3 or 3=3" + REST, -1);
        fault("leans not 1<2 and not 2=3" + REST, -1);
        fault("leans 1+(not 2)" + REST, -1);
        fault("leans ()" + REST, 7);
        fault("leans (1" + REST, 8);
        fault("leans 1)" + REST, 7);
        fault("leans (1))" + REST, 9);
        fault("leans +1" + REST, 6);
        fault("leans *1" + REST, 6);
        fault("leans 1++1" + REST, 8);
        fault("leans 1-+1" + REST, 8);
        fault("leans 1+-1" + REST, -1);
        fault("leans 1**1" + REST, 8);
        fault("leans 1==1" + REST, 8);
        fault("leans 1<=1" + REST, 8);
    }

    /** Every way to open five of the three sorts, then a sixth of each: all but five is the fault. */
    private static void open() {
        for (int way = 0; way < 243; way++) {
            String[] signs = new String[5];
            int rest = way;
            boolean may = true;
            for (int i = 0; i < 5; i++) {
                signs[i] = new String[] {"(", "-", "not "}[rest % 3];
                // A not can't stand behind a - that belongs to a ONE.
                if (i > 0 && signs[i].equals("not ") && signs[i - 1].equals("-")) may = false;
                rest /= 3;
            }
            if (!may) continue;
            String five = "leans " + String.join("", signs);
            String closing = ")".repeat((int) Arrays.stream(signs).filter("("::equals).count());
            fault(five + "1" + closing + REST, -1);
            for (String sixth : new String[] {"(1)", "-1", "not 1"}) {
                fault(five + sixth + closing + REST, five.length());
            }
            // A - between two is none that opens.
            fault(five + "1-1" + closing + REST, -1);
            if (!signs[4].equals("-")) fault(five + "1--1" + closing + REST, five.length() + 2);
            if (signs[4].equals("(")) fault(five + "1 and not 1" + closing + REST, five.length() + 6);
        }
    }

    /** What is closed makes room: a ( by its ), a not and a - where what they belong to ends. */
    private static void closed() {
        fault("leans (((((1)))))+(((((1)))))" + REST, -1);
        fault("leans (((((1))+(1))))" + REST, -1);
        fault("leans (((((1))+((1)))))" + REST, -1);
        fault("leans (((((1))+(((1))))))" + REST, 17);
        fault("leans -----1*-----1--(((1)))" + REST, -1);
        fault("leans -----1------1" + REST, -1);
        fault("leans -----1-------1" + REST, 18);
        fault("leans ((((-1*-1*-1+-1<-1))))" + REST, -1);
        fault("leans ((((-1*--1))))" + REST, 14);
        fault("leans -(-(-1*-(1)))" + REST, 14);
        fault("leans -(-(-1*-1))" + REST, -1);
        fault("leans not not not not not 1 and not not not not not 1" + REST, -1);
        fault("leans not not not not -1<-1" + REST, -1);
        fault("leans not not not not 1<--1" + REST, 25);
        fault("leans not not not not not 1<-1" + REST, 28);
        fault("leans not not not not not 1 or -----1" + REST, -1);
        fault("leans not (not (not 1 and not 1) and not 1) and not 1" + REST, -1);
        fault("leans not(not(not 1<not 1))" + REST, 20);
        fault("leans not(((1)))+((1))" + REST, -1);
        fault("leans not 1+((((1))))" + REST, -1);
        fault("leans not 1+(((((1)))))" + REST, 16);
        fault("leans -((((1))))*(((((1)))))" + REST, -1);
        fault("leans (((((1)))));holds (((((1)))));minds -----1;", -1);
        fault("leans 1;holds ((((((1))))));minds 1;", 19);
        fault("leans 1;holds 1;minds ------1;", 27);
    }

    private static void openOfAll() {
        // Bytes that open stand to the tape's end: the sixth is the fault, whatever comes behind.
        fault("leans " + "(".repeat(154), 11);
        fault("leans " + "-".repeat(154), 11);
        fault("leans " + "not ".repeat(38), 26);
        fault("leans " + "-(".repeat(77), 11);
        fault("leans 1" + "-1".repeat(76), 159);
        fault("leans " + "1*".repeat(77), 160);
    }

    private static void sixTexts() {
        LeanedOut x = new LeanedOut();
        due("a fault takes no number", Checks.text(x, "leans"), -105);
        for (int t = 1; t < 6; t++) {
            due("TEXTS are numbered from 0 on", Checks.text(x, "leans " + t + REST), t);
            due("a fault takes no number", Checks.text(x, t < 5 ? "!" : ""), t < 5 ? -100 : -4);
        }
        Checks.tape(x, "!");
        due("FULL (ahead of the FAULT)", x.text(), -4);
        due("then THE TAPE stays", x.count(5), 1);
        due("it goes on behind it", x.feed(2, 'a', 'b', 0, 0, 0), 3);
        due("FULL again", x.text(), -4);
        due("6 at most", x.count(3), 6);
        x.person(0, 10);
        due("TEXT 0, at first, and THE LAW", x.asks(0, 0) * 1000 + x.asks(1, 0) * 10 + x.asks(2, 0), 5600);
        for (int t = 1; t < 6; t++) {
            due("force", x.force(t), t - 1);
            due("each its own", x.asks(0, 0), t);
        }
        due("force", x.force(6), -2);
        due("force", x.force(0), 5);
    }

    /** What was read ahead of a fault takes no room from the next text, though both fill the tape. */
    private static void nothingLeftOfAFault() {
        LeanedOut x = new LeanedOut();
        for (int i = 0; i < 3; i++) {
            due("the FAULT is at the end", Checks.text(x, "leans 1" + "+1".repeat(76)), -100 - 159);
            due("all three parts", Checks.text(x, "leans 4;holds 5" + "+0".repeat(68) + ";minds 6;"), i + 1);
            x.force(i + 1);
            if (i == 0) x.person(0, 10);
            for (int part = 0; part < 3; part++) due("as it says", x.asks(part, 0), 4 + part);
        }
    }
}
