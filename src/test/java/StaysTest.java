import java.util.ArrayList;
import java.util.Arrays;
import java.util.List;
import java.util.function.ToLongFunction;

/**
 * What is refused and what is asked changes nothing: of two objects alike one has a call more, and all that
 * can be asked of both is answered alike then. (A text with a FAULT empties the tape, and peopleBy with -12
 * lets some come: that is told.)
 */
public final class StaysTest {
    private static final int LEAST = Integer.MIN_VALUE, MOST = Integer.MAX_VALUE;

    private record Call(String name, ToLongFunction<LeanedOut> call) { }

    private static final List<Call> CALLS = new ArrayList<>();

    public static void main(String[] args) {
        refused();
        asked();
        for (int scene = 0; scene < 4; scene++) {
            long[] due = all(scene(scene));
            for (Call c : CALLS) {
                LeanedOut x = scene(scene);
                long first = c.call.applyAsLong(x);
                Checks.due("the same again, scene " + scene + ": " + c.name, c.call.applyAsLong(x), first);
                long[] got = all(x);
                int i = Arrays.mismatch(due, got);
                if (i >= 0) {
                    Checks.fail("scene " + scene + ", " + c.name + " changed what answer " + i + " tells: " + got[i]
                        + ", due is " + due[i]);
                }
            }
        }
        // An answer that would be told otherwise is told: without this the rest would show little.
        LeanedOut x = scene(0);
        x.callIn(1);
        Checks.due("a change is seen", Arrays.equals(all(x), all(scene(0))) ? 0 : 1, 1);
        truly();
        Checks.end("StaysTest");
    }

    private static void add(String name, ToLongFunction<LeanedOut> call) {
        CALLS.add(new Call(name, call));
    }

    /** Four people, of whom one is kept; three texts, a tape, four sheets, an image of before. */
    private static LeanedOut scene(int which) {
        LeanedOut x = new LeanedOut();
        if (which == 3) return x;
        Checks.text(x, "leans 4+more-lookers*across;holds 40-9*beside;minds 9-day;");
        x.force(1);
        x.person(15, 310);
        x.person(24, 1003);
        x.person(50, 411);
        x.put(2, 2, 9);
        x.person(38, 1205);
        x.put(0, 2, 21);
        x.image();
        x.day();
        if (which == 1) {
            x.person(0, 110);
            x.person(40, 511);
            for (int t = 2; t < 6; t++) Checks.text(x, "leans " + t + ";holds 9;minds 1;");
            x.dawn(999);
            Checks.tape(x, "!".repeat(160));
        } else if (which == 2) {
            for (int p = 0; p < 4; p++) x.put(p, 2, 99);
            x.day();
            x.day();
        } else {
            Checks.text(x, "leans 0;holds 99;minds 0;");
            Checks.tape(x, "leans");
            x.day();
        }
        for (int s = 0; s < 3; s++) {
            x.sheet(s, s, 5 + s);
            for (int i = 0; i < 5; i++) x.cell(s, i, 10 * s + i);
        }
        return x;
    }

    /** The answers of calls that together tell all: of what is now, of the rows, of the image, of the tape. */
    private static long[] all(LeanedOut x) {
        List<Long> told = new ArrayList<>();
        now(x, told);
        for (int s = 0; s < 4; s++) told.add((long) x.cell(s, 40, 1));
        for (int s = 0; s < 3; s++) {
            told.add((long) Reading.size(x, s));
            for (int i = 0; i < 5; i++) {
                x.sheet(3, s, 1);
                told.add((long) x.copy(s, i, 3, 0, 1));
                for (int p = 0; p < x.count(0); p++) told.add((long) x.leans(3, p, 1));
            }
        }
        told.add((long) x.back());
        now(x, told);
        told.add((long) x.person(13, 915));
        told.add((long) x.text());
        told.add((long) x.count(3));
        told.add((long) x.force(x.count(3) - 1));
        for (int part = 0; part < 3; part++) told.add((long) x.asks(part, 0));
        return told.stream().mapToLong(Long::longValue).toArray();
    }

    private static void now(LeanedOut x, List<Long> told) {
        for (int what = 0; what < 6; what++) told.add((long) x.count(what));
        for (int p = 0; p < x.count(0); p++) {
            for (int what = 0; what < 10; what++) told.add((long) x.told(p, what));
        }
    }

    private static void refused() {
        int[] far = {LEAST, -1, 1000, MOST};
        for (int v : far) {
            add("dawn " + v, x -> x.dawn(v));
            add("feed " + v, x -> x.feed(v, 1, 1, 1, 1, 1));
            add("feed e " + v, x -> x.feed(2, 1, 1, 1, 1, v));
            add("force " + v, x -> x.force(v));
            add("person " + v, x -> x.person(v, 917));
            add("person at " + v, x -> x.person(1, v == 1000 ? 9 : v));
            add("put p " + v, x -> x.put(v, 2, 5));
            add("put what " + v, x -> x.put(0, v, 5));
            for (int what = 0; what < 3; what++) {
                int w = what;
                add("put " + w + " " + v, x -> x.put(0, w, v));
            }
            add("callIn " + v, x -> x.callIn(v));
            add("crane p " + v, x -> x.crane(v, 15));
            add("crane w " + v, x -> x.crane(0, v));
            add("film s " + v, x -> x.film(v, 0, 5));
            add("film p " + v, x -> x.film(0, v, 5));
            add("film n " + v, x -> x.film(0, 0, v));
            add("sheet s " + v, x -> x.sheet(v, 0, 5));
            add("sheet sort " + v, x -> x.sheet(0, v == -1 ? -2 : v, 5));
            add("sheet n " + v, x -> x.sheet(0, 0, v));
            add("cell s " + v, x -> x.cell(v, 0, 5));
            add("cell i " + v, x -> x.cell(0, v, 5));
            add("copy s " + v, x -> x.copy(v, 0, 0, 1, 2));
            add("copy other " + v, x -> x.copy(0, 0, v, 1, 2));
            add("copy i " + v, x -> x.copy(0, v, 0, 1, 2));
            add("copy j " + v, x -> x.copy(0, 0, 0, v, 2));
            add("copy n " + v, x -> x.copy(0, 0, 0, 1, v));
            add("peopleBy s " + v, x -> x.peopleBy(v, 0, 0, 1));
            add("peopleBy sort " + v, x -> x.peopleBy(0, v, 0, 1));
            add("peopleBy from " + v, x -> x.peopleBy(0, 0, v, 1));
            add("peopleBy n " + v, x -> x.peopleBy(0, 0, 0, v));
        }
        add("a WINDOW of the other SIDE", x -> x.put(0, 0, 12));
        add("somebody's WINDOW", x -> x.put(0, 0, 4));
        add("a LOOK of one's SIDE", x -> x.put(0, 1, 5));
        add("one's own WINDOW", x -> x.put(0, 0, 3));
        add("crane to one's SIDE", x -> x.crane(0, 5));
        add("who is KEPT called in", x -> x.callIn(2));
        add("copy one too many", x -> x.copy(0, 0, 0, 1, 5));
        add("copy to another sort", x -> x.copy(0, 0, 1, 0, 2));
        add("copy to a missing one", x -> x.copy(0, 0, 3, 0, 2));
        add("copy none", x -> x.copy(0, 2, 0, 0, 0));
        add("copy onto itself", x -> x.copy(0, 0, 0, 0, 5));
        add("peopleBy nobody", x -> x.peopleBy(0, 0, 0, 0));
        add("peopleBy a missing one", x -> x.peopleBy(3, 0, 0, 1));
        add("peopleBy another sort", x -> x.peopleBy(0, 1, 0, 1));
        add("peopleBy no WINDOWS", x -> x.peopleBy(0, 0, 0, 2));
        add("cell of a missing one", x -> x.cell(3, 0, 1));
    }

    private static void asked() {
        for (int what = -1; what < 17; what++) {
            int w = what;
            add("count " + w, x -> x.count(w));
            add("street " + w, x -> x.street(w));
            add("run " + w, x -> x.run(40, w));
            add("turn " + w, x -> x.turn(w));
            add("warn " + w, x -> x.warn(40, w));
            add("untangle 0 " + w, x -> x.untangle(0, w));
            add("untangle 1 " + w, x -> x.untangle(1, w));
            add("drawn " + w, x -> x.drawn(77, w));
            for (int p = -1; p < 5; p++) {
                int q = p;
                add("told " + q + " " + w, x -> x.told(q, w));
                add("asks " + w + " " + q, x -> x.asks(w, q));
                add("safe " + q + " " + w, x -> x.safe(q, w));
                add("strain " + q + " " + w, x -> x.strain(q, w));
                add("kinds " + q + " " + w, x -> x.kinds(0, q, w));
                add("windows " + q + " " + w, x -> x.windows(1, q, w));
                add("leans " + q + " " + w, x -> x.leans(2, q, w));
                add("odds " + q + " " + w, x -> x.odds(5, 40, q, w));
            }
        }
        for (int p = -1; p < 7; p++) {
            int q = p;
            add("chain " + q, x -> x.chain(q));
            add("keeps " + q, x -> x.keeps(q));
            for (int s = -1; s < 5; s++) {
                int r = s;
                add("judge " + r + " " + q, x -> x.judge(r, q));
                add("whose " + r, x -> x.whose(r));
                add("laws " + r + " " + q, x -> x.laws(r, q));
                add("taken " + r + " " + q, x -> x.taken(r + 4, q));
            }
        }
    }

    /** What changes only at times: refused where it would, told where it does. */
    private static void truly() {
        LeanedOut x = scene(1);
        long[] due = all(scene(1));
        Checks.due("FULL", x.person(0, 915), -4);
        Checks.due("FULL", x.feed(1, 1, 1, 1, 1, 1), -4);
        Checks.due("FULL", x.text(), -4);
        Checks.due("STATE", x.day(), -3);
        Checks.due("others are left out", x.peopleBy(0, 0, 0, 2), 0);
        Checks.due("refusals change nothing", Arrays.equals(due, all(x)) ? 1 : 0, 1);
        LeanedOut none = scene(3);
        Checks.due("STATE", none.back(), -3);
        Checks.due("STATE changes nothing", Arrays.equals(all(scene(3)), all(none)) ? 1 : 0, 1);
        LeanedOut y = scene(0);
        Checks.due("a FAULT", y.text(), -105);
        Checks.due("by a FAULT, too", y.count(5), 0);
        Checks.due("no more TEXTS", y.count(3), 3);
    }
}
