/** Promises 28 and 29. */
public final class BeatTest {
    private static final int BAD = EvenFlow.BAD, STATE = EvenFlow.STATE, SPENT = EvenFlow.SPENT;
    private static final int FIXED = 0, PHASED = 4;
    private static final Due due = new Due();

    public static void main(String[] args) {
        time();
        ownRings();
        fractions();
        lowestTerms();
        manyWaits();
        phases();
        refused();
        due.end();
    }

    private static void beatIs(EvenFlow x, int upper, int lower) {
        due.are(new long[] {x.beat(false), x.beat(true)}, upper, lower);
    }

    private static void time() {
        due.promise(28);
        EvenFlow x = Flows.parts(2);
        due.is(x.time(2, 1), BAD);
        due.is(x.time(-1, 1), BAD);
        due.is(x.time(0, -1), BAD);
        due.is(x.time(0, 1001), BAD);
        due.is(x.time(0, 1000), 1);
        due.is(x.time(0, 0), 1000);
        due.is(x.time(0, 4), 0);
        due.is(x.time(1, 4), 1);
        x.schedule(0);
        x.fire(0);
        x.time(0, 9);
        due.is(x.many(2), 1);
        due.is(x.many(3), 2);
    }

    private static void ownRings() {
        due.promise(29);
        EvenFlow x = Flows.parts(2);
        beatIs(x, 1, 1);
        x.time(1, 7);
        beatIs(x, 7, 1);
        x.time(1, 0);
        x.time(0, 0);
        beatIs(x, 0, 1);
        x.time(0, 6);
        x.line(0, 3, 1, 1);
        beatIs(x, 6, 1);
        x.time(1, 3);
        beatIs(x, 9, 1);
    }

    /** Three PARTS in a ring with so many things on it. */
    private static EvenFlow ring(int things) {
        EvenFlow x = Flows.parts(3);
        x.line(0, 1, 1, 1);
        x.line(1, 1, 2, 1);
        x.line(2, 1, 0, 1);
        x.first(0, things / 2);
        x.first(2, things - things / 2);
        return x;
    }

    private static void fractions() {
        due.promise(29);
        beatIs(ring(1), 3, 1);
        beatIs(ring(2), 3, 2);
        beatIs(ring(3), 1, 1);
        beatIs(ring(60), 1, 1);
        EvenFlow x = ring(2);
        x.time(1, 3);
        beatIs(x, 3, 1);
        x.time(1, 1);
        x.time(0, 2);
        beatIs(x, 2, 1);
        x.time(2, 1000);
        x.time(1, 999);
        x.time(0, 1000);
        beatIs(x, 2999, 2);
        // The slowest of two rings.
        EvenFlow y = ring(2);
        y.line(0, 1, 2, 1);
        y.line(2, 1, 1, 1);
        y.first(3, 1);
        y.first(4, 1);
        beatIs(y, 2, 1);
        // PART 0 waits for both FIRINGS of PART 1 in the ROUND before.
        EvenFlow z = Flows.parts(2);
        z.line(0, 2, 1, 1);
        z.line(1, 1, 0, 2);
        z.first(1, 2);
        beatIs(z, 3, 1);
        // With a third one PART 0 waits for the first of them alone.
        z.first(1, 3);
        beatIs(z, 2, 1);
        z.time(0, 5);
        beatIs(z, 6, 1);
        z.first(1, 4);
        beatIs(z, 5, 1);
    }

    /** Twice as many PARTS as things in a ring: its fraction is not in lowest terms. */
    private static void lowestTerms() {
        due.promise(29);
        EvenFlow x = Flows.parts(6);
        for (int p = 0; p < 6; p++) {
            x.line(p, 1, (p + 1) % 6, 1);
            x.first(p, p % 3 == 0 ? 1 : 0);
        }
        beatIs(x, 3, 1);
        x.first(1, 2);
        beatIs(x, 3, 2);
    }

    /** As many waits as can count: the last LINE's last one is that which makes a RING of all 60 FIRINGS. */
    private static void manyWaits() {
        due.promise(29);
        EvenFlow x = new EvenFlow();
        x.part(PHASED, 0, 3);
        x.part(FIXED, 0, 0);
        x.line(1, 1, 0, 19);
        x.first(0, 1);
        int[] takes = {1, 50, 6};
        int[] gives = {50, 6, 1};
        for (int l = 1; l < 20; l++) {
            if (l == 19) {
                beatIs(x, 57, 1);
            }
            x.line(0, 19, 1, 1);
            x.first(l, l < 19 ? 60 : 0);
            for (int phase = 0; phase < 3; phase++) {
                x.count(0, true, phase, takes[phase]);
                x.count(l, false, phase, gives[phase]);
            }
        }
        due.is(x.round(), 60);
        beatIs(x, 60, 1);
        x.time(1, 1000);
        x.time(0, 999);
        beatIs(x, 57 * 1000 + 3 * 999, 1);
    }

    private static void phases() {
        due.promise(29);
        EvenFlow x = new EvenFlow();
        x.part(PHASED, 0, 2);
        x.part(FIXED, 0, 0);
        x.line(0, 1, 1, 1);
        x.count(0, false, 0, 2);
        x.count(0, false, 1, 0);
        x.line(1, 1, 0, 1);
        x.first(1, 2);
        beatIs(x, 2, 1);
        x.first(1, 1);
        beatIs(x, 3, 1);
        // What PHASE 1 does not take it does not wait for.
        x.count(1, true, 0, 2);
        x.count(1, true, 1, 0);
        x.first(1, 2);
        beatIs(x, 3, 1);
        x.time(1, 5);
        beatIs(x, 11, 1);
        x.time(0, 5);
        x.time(1, 1);
        beatIs(x, 10, 1);
    }

    private static void refused() {
        due.promise(29);
        due.is(new EvenFlow().beat(false), STATE);
        EvenFlow uneven = Flows.parts(2);
        uneven.line(0, 1, 0, 2);
        due.is(uneven.beat(false), STATE);
        due.is(ring(0).beat(false), STATE);
        due.is(ring(0).beat(true), STATE);
        EvenFlow spent = Flows.parts(3);
        spent.line(0, 50, 1, 1);
        spent.line(1, 50, 2, 1);
        due.is(spent.beat(false), SPENT);
        spent.line(0, 1, 0, 1);
        due.is(spent.beat(true), SPENT);
        EvenFlow many = Flows.parts(11);
        many.line(0, 50, 1, 1);
        beatIs(many, 50, 1);
        many.part(FIXED, 0, 0);
        due.is(many.round(), 61);
        due.is(many.beat(false), STATE);
        due.is(many.beat(true), STATE);
    }
}
