/** Graphs that several tests begin with. */
final class Flows {
    private Flows() {
    }

    /** FIXED PARTS. */
    static EvenFlow parts(int n) {
        EvenFlow x = new EvenFlow();
        for (int p = 0; p < n; p++) {
            x.part(0, 0, 0);
        }
        return x;
    }

    /** PARTS in a row, with a LINE from each to the next: COUNTS two by two. */
    static EvenFlow chain(int... counts) {
        EvenFlow x = parts(counts.length / 2 + 1);
        for (int l = 0; l < counts.length / 2; l++) {
            x.line(l, counts[2 * l], l + 1, counts[2 * l + 1]);
        }
        return x;
    }
}
