/** Graphs that several tests begin with, and answers asked for in rows. */
final class Flows {
    private Flows() {
    }

    /** FIXED PARTS. */
    static EvenFlow parts(int n) {
        EvenFlow x = new EvenFlow();
        for (int p = 0; p < n; p++) {
            x.part(0, 0, 0);
        }
        return x;
    }

    /** PARTS in a row, with a LINE from each to the next: COUNTS two by two. */
    static EvenFlow chain(int... counts) {
        EvenFlow x = parts(counts.length / 2 + 1);
        for (int l = 0; l < counts.length / 2; l++) {
            x.line(l, counts[2 * l], l + 1, counts[2 * l + 1]);
        }
        return x;
    }

    /** PARTS in a ring with COUNTS 1, and so many FIRST THINGS on the LINE from each to the next. */
    static EvenFlow ring(int... things) {
        EvenFlow x = parts(things.length);
        for (int p = 0; p < things.length; p++) {
            x.line(p, 1, (p + 1) % things.length, 1);
            x.first(p, things[p]);
        }
        return x;
    }

    /** One PART that no LINE ties. */
    static EvenFlow one(int kind, long k, int n) {
        EvenFlow x = new EvenFlow();
        x.part(kind, k, n);
        return x;
    }

    /** PART 0 gives v, v + 1, .. to PART 1, so many as it takes at each FIRING. */
    static EvenFlow fed(int kind, long k, int n, long v, int takes) {
        EvenFlow x = new EvenFlow();
        x.part(0, v, 0);
        x.part(kind, k, n);
        x.line(0, takes, 1, takes);
        return x;
    }

    /** There is no SCHEDULE: each of two PARTS waits for the other. */
    static EvenFlow sticking() {
        return ring(0, 0);
    }

    /** UNEVEN at LINE 1. */
    static EvenFlow uneven() {
        EvenFlow x = chain(1, 1);
        x.line(0, 1, 1, 2);
        return x;
    }

    /** SPENT: PART 2 would have 2500 FIRINGS. */
    static EvenFlow spent() {
        return chain(50, 1, 50, 1);
    }

    /** SPENT by LINES: at LINE 3 PART 4 has 1125000 FIRINGS to one of PART 0. */
    static EvenFlow spentByLines() {
        return chain(50, 1, 50, 1, 50, 1, 9, 1);
    }

    /** The FIRINGS of the latest SCHEDULE. */
    static long[] latest(EvenFlow x) {
        long[] row = new long[Math.max(0, x.many(3))];
        for (int i = 0; i < row.length; i++) {
            row[i] = x.firing(i);
        }
        return row;
    }

    /** The first items of ONCE. */
    static long[] brackets(EvenFlow x, int n) {
        long[] items = new long[n];
        for (int i = 0; i < n; i++) {
            items[i] = x.bracket(i);
        }
        return items;
    }

    /** The first numbers of THE TRACE. */
    static long[] trace(EvenFlow x, int n) {
        long[] numbers = new long[n];
        for (int i = 0; i < n; i++) {
            numbers[i] = x.trace(i);
        }
        return numbers;
    }

    /** The things on a LINE. */
    static long[] things(EvenFlow x, int line) {
        long[] all = new long[Math.max(0, x.things(line))];
        for (int i = 0; i < all.length; i++) {
            x.look(line, i);
            all[i] = x.asked();
        }
        return all;
    }

    /** What a PART gives at so many FIRINGS. */
    static long[] gives(EvenFlow x, int part, int n) {
        long[] all = new long[n];
        for (int i = 0; i < n; i++) {
            x.fire(part);
            all[i] = x.gave();
        }
        return all;
    }

    /** Drafts PARTS and checks them. */
    static int checked(EvenFlow x, int... parts) {
        for (int p : parts) {
            x.draft(p);
        }
        return x.check();
    }

    /** What so many calls of go() answer. */
    static long[] goes(EvenFlow x, int... threads) {
        long[] all = new long[threads.length];
        for (int i = 0; i < threads.length; i++) {
            all[i] = x.go(threads[i]);
        }
        return all;
    }
}
