/** Reads numbers out of sheets, which the face tells by their effects alone. Spends sheet 3. */
final class Reading {
    private Reading() { }

    /** Number i of a sheet of a sort, by one who leans nothing now; -1 if it is none that LEAN can be. */
    static int cell(LeanedOut x, int still, int s, int sort, int i) {
        x.sheet(3, sort, 1);
        if (x.copy(s, i, 3, 0, 1) != 1) return -2;
        return x.leans(3, still, 1);
    }

    /** How many numbers a sheet has, as far as 40. */
    static int size(LeanedOut x, int s) {
        int n = 0;
        while (n < 41 && x.copy(s, 0, s, 0, n + 1) == n + 1) n++;
        return n;
    }
}
