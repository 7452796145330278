/** The edges that the document names ahead of promise 1, in its terms of PARTS, LINES, WORKS and THINGS, sentence by sentence. */
public final class TermsEdgesTest {
    private static final int BAD = EvenFlow.BAD, FULL = EvenFlow.FULL, FINDING = EvenFlow.FINDING, STATE = EvenFlow.STATE;
    private static final int SPENT = EvenFlow.SPENT, NONE = EvenFlow.NONE;
    private static final int NOTHING = 1, BEYOND = 2, CAST = 3, NOUGHT = 4, SIZE = 5;
    private static final int FIXED = 0, SCALED = 1, KEEPER = 2, SHARE = 3, PHASED = 4, DELAY = 5;
    private static final long MIN = Long.MIN_VALUE, MAX = Long.MAX_VALUE;
    private static final Due due = new Due();

    public static void main(String[] args) {
        calls();
        sameInEveryOrder();
        refusedInOrder();
        constants();
        findings();
        twelveParts();
        kinds();
        phases();
        wraps();
        twentyLines();
        counts();
        countsOfPhases();
        firstThings();
        takenInOrder();
        traceIsEmptyAhead();
        fixed();
        scaled();
        keeper();
        share();
        shareNought();
        phased();
        delay();
        delayWithoutRow();
        givesToEachLine();
        state();
        findingIsNoFiring();
        threads();
        due.end();
    }

    private static void calls() {
        due.says(0, "An object is used for at most 512 calls after it has been made");
        EvenFlow x = Flows.one(KEEPER, 1, 0);
        for (int call = 2; call <= 511; call++) {
            due.is(x.fire(0), 1);
        }
        due.is(x.gave(), 510);
    }

    private static void sameInEveryOrder() {
        due.says(0, "and the things themselves, the same in every order.");
        int[][] orders = {{0, 1, 2}, {2, 1, 0}, {1, 2, 0}, {0, 0, 2, 1}, {2, 2, 1, 1, 0}};
        long[][] all = new long[orders.length][];
        for (int i = 0; i < orders.length; i++) {
            EvenFlow x = Flows.one(KEEPER, 3, 0);
            x.part(DELAY, 1, 2);
            x.part(PHASED, 2, 2);
            x.line(0, 2, 1, 1);
            x.line(1, 1, 2, 2);
            x.line(2, 2, 0, 2);
            x.first(2, 4);
            // 8 FIRINGS of PARTS 0 and 2, 16 of PART 1, as it comes.
            int[] left = {8, 16, 8};
            for (int step = 0; step < 200; step++) {
                int p = orders[i][step % orders[i].length];
                if (left[p] > 0 && x.fire(p) == 1) {
                    left[p]--;
                }
            }
            all[i] = new long[] {x.many(2), x.digest(), x.given(0, 15), x.asked(), x.given(1, 15), x.asked(), x.given(2, 15), x.asked()};
            due.is(all[i][0], 32);
            due.are(all[i], all[0]);
        }
    }

    private static EvenFlow full() {
        EvenFlow x = Flows.parts(12);
        for (int l = 0; l < 20; l++) {
            x.line(0, 1, 1, 1);
        }
        return x;
    }

    private static void refusedInOrder() {
        due.says(0, "Refused is, the first of these that fits, in this order: BAD -1 (a number that is none, or not as told), FULL -2, STATE -4 (it can't be now), SPENT -6 (more than told), FINDING -3 (finding() tells which), unless a call says so otherwise.");
        EvenFlow x = full();
        due.is(x.part(6, 0, 0), BAD);
        due.is(x.part(PHASED, 0, 0), BAD);
        due.is(x.part(DELAY, 0, -1), FULL);
        due.is(x.line(12, 1, 0, 1), BAD);
        due.is(x.line(0, 51, 0, 1), BAD);
        due.is(x.line(0, 1, 0, 1), FULL);
        due.is(x.finding(), 0);
        EvenFlow none = new EvenFlow();
        due.is(none.schedule(3), BAD);
        due.is(none.least(0), BAD);
        due.is(none.firings(0), BAD);
        due.is(none.lacks(0), BAD);
        due.is(none.go(4), BAD);
        due.is(Flows.uneven().lacks(2), BAD);
        due.is(Flows.uneven().firings(2), BAD);
        due.is(Flows.spent().firings(3), BAD);
        due.is(Flows.spent().lacks(2), BAD);
        due.is(Flows.spent().schedule(3), BAD);
        EvenFlow uneven = Flows.uneven();
        uneven.part(PHASED, 0, 1);
        due.is(uneven.once(), STATE);
        EvenFlow spent = Flows.spent();
        spent.part(PHASED, 0, 1);
        due.is(spent.once(), SPENT);
        due.is(spent.finding(), 0);
    }

    private static void constants() {
        due.says(0, "NONE -9.");
        due.are(new long[] {BAD, FULL, FINDING, STATE, SPENT, NONE}, -1, -2, -3, -4, -6, -9);
    }

    private static void findings() {
        due.says(0, "FINDINGS: 1 NOTHING (a row that there is not), 2 BEYOND (a place that a row has not), 3 CAST (a PART of another KIND), 4 NOUGHT (divided by nothing), 5 SIZE (fewer than none).");
        EvenFlow x = Flows.one(DELAY, 0, 1);
        x.part(SHARE, 0, 0);
        due.is(x.part(DELAY, 0, -1), FINDING);
        due.is(x.finding(), 5);
        due.is(x.fire(1), FINDING);
        due.is(x.finding(), 4);
        due.is(x.row(1, 0, 0), FINDING);
        due.is(x.finding(), 3);
        due.is(x.row(0, 1, 0), FINDING);
        due.is(x.finding(), 2);
        x.tear(0);
        due.is(x.row(0, 1, 0), FINDING);
        due.is(x.finding(), 1);
        for (int f = 1; f <= 5; f++) {
            due.is(x.findings(f), 1);
        }
    }

    private static void twelveParts() {
        due.says(0, "PARTS 0, 1, .. (12 at most) are of a KIND, with a number K (a long)");
        EvenFlow x = new EvenFlow();
        for (int p = 0; p < 12; p++) {
            due.is(x.part(p % 4, p % 2 == 0 ? MIN : MAX, 0), p);
        }
        due.is(x.part(FIXED, 0, 0), FULL);
        due.is(x.told(11, 0), 3);
        due.is(x.told(12, 0), BAD);
        x.fire(0);
        due.is(x.gave(), MIN);
        due.is(x.may(11), 1);
        due.is(x.line(11, 1, 11, 1), 0);
        due.is(x.ends(0, 0), 11);
        due.is(x.round(), 12);
    }

    private static void kinds() {
        due.says(0, "0 FIXED, 1 SCALED (a FIXED, too), 2 KEEPER (a SCALED), 3 SHARE (a SCALED), 4 PHASED (a FIXED), with 1 to 4 PHASES, 5 DELAY (a FIXED), with a ROW of longs.");
        EvenFlow x = new EvenFlow();
        for (int kind = 0; kind < 6; kind++) {
            due.is(x.part(kind, 0, 1), kind);
            due.is(x.is(kind, FIXED), 1);
            due.is(x.is(kind, SCALED), kind == SCALED || kind == KEEPER || kind == SHARE ? 1 : 0);
            due.is(x.is(kind, KEEPER), kind == KEEPER ? 1 : 0);
            due.is(x.is(kind, SHARE), kind == SHARE ? 1 : 0);
            due.is(x.is(kind, PHASED), kind == PHASED ? 1 : 0);
            due.is(x.is(kind, DELAY), kind == DELAY ? 1 : 0);
        }
        EvenFlow row = Flows.one(DELAY, 0, 2);
        row.row(0, 0, MIN);
        row.row(0, 1, MAX);
        due.are(Flows.gives(row, 0, 2), MIN, MAX);
    }

    private static void phases() {
        due.says(0, "4 PHASED (a FIXED), with 1 to 4 PHASES");
        EvenFlow x = new EvenFlow();
        due.is(x.part(PHASED, 0, 0), BAD);
        due.is(x.part(PHASED, 0, 5), BAD);
        for (int n = 1; n <= 4; n++) {
            due.is(x.part(PHASED, 0, n), n - 1);
            due.is(x.told(n - 1, 1), n);
            due.is(x.firings(n - 1), n);
        }
    }

    private static void wraps() {
        due.says(0, "things are longs (that wrap)");
        EvenFlow x = Flows.one(FIXED, MAX, 0);
        x.line(0, 3, 0, 1);
        x.first(0, 1);
        due.is(x.fire(0), 1);
        due.are(Flows.things(x, 0), MAX, MIN, MIN + 1);
        due.is(x.fire(0), 1);
        due.is(x.gave(), -2);
        due.are(Flows.things(x, 0), MIN, MIN + 1, -2, -1, 0);
        x.given(0, 1);
        due.is(x.asked(), MIN);
        due.is(x.given(0, 5), 1);
        due.is(x.asked(), 0);
    }

    private static void twentyLines() {
        due.says(0, "LINES 0, 1, .. (20 at most) lead from a PART to a PART (perhaps the same)");
        EvenFlow x = Flows.parts(2);
        for (int l = 0; l < 20; l++) {
            due.is(x.line(l % 2, 1, l / 2 % 2, 1), l);
        }
        due.is(x.line(0, 1, 1, 1), FULL);
        for (int l = 0; l < 20; l++) {
            due.is(x.ends(l, 0), l % 2);
            due.is(x.ends(l, 1), l / 2 % 2);
        }
        due.is(x.ends(20, 0), BAD);
        due.is(x.first(19, 3), 3);
        due.is(x.things(19), 3);
        EvenFlow self = Flows.parts(1);
        due.is(self.line(0, 1, 0, 1), 0);
        due.is(self.may(0), 0);
    }

    private static void counts() {
        due.says(0, "with two COUNTS (1 .. 50): how many things a FIRING gives, and takes.");
        EvenFlow x = Flows.parts(2);
        due.is(x.line(0, 0, 1, 1), BAD);
        due.is(x.line(0, 51, 1, 1), BAD);
        due.is(x.line(0, 1, 1, 0), BAD);
        due.is(x.line(0, 1, 1, 51), BAD);
        // 0 is for a PHASE: two COUNTS are told of each LINE, wherever it leads.
        EvenFlow ofPhases = Flows.one(PHASED, 0, 2);
        due.is(ofPhases.line(0, 0, 0, 1), BAD);
        due.is(ofPhases.line(0, 1, 0, 0), BAD);
        due.is(x.line(0, 50, 1, 1), 0);
        due.is(x.line(0, 1, 1, 50), 1);
        x.fire(0);
        due.is(x.things(0), 50);
        due.is(x.things(1), 1);
        for (int i = 2; i < 8; i++) {
            x.fire(0);
        }
        due.is(x.fire(1), 0);
        x.first(1, 50);
        x.fire(0);
        due.is(x.fire(1), 1);
        due.is(x.things(0), 49);
        due.is(x.things(1), 1);
    }

    private static void countsOfPhases() {
        due.says(0, "At the end of a PHASED PART it has a COUNT for each PHASE (0 .. 50; all the one told at first): its FIRINGS go by PHASES 0, 1, .., round and round.");
        EvenFlow x = Flows.one(PHASED, 0, 3);
        x.part(PHASED, 0, 4);
        x.line(0, 7, 1, 9);
        for (int phase = 0; phase < 3; phase++) {
            due.is(x.count(0, false, phase, phase), 7);
        }
        for (int phase = 0; phase < 4; phase++) {
            due.is(x.count(0, true, phase, phase == 2 ? 50 : 0), 9);
        }
        due.is(x.count(0, false, 0, -1), BAD);
        due.is(x.count(0, false, 0, 51), BAD);
        int[] on = {0, 1, 3, 3, 4, 6, 6};
        for (int firing = 0; firing < 7; firing++) {
            due.is(x.fire(0), 1);
            due.is(x.things(0), on[firing]);
        }
        due.is(x.fire(1), 1);
        due.is(x.fire(1), 1);
        due.is(x.fire(1), 0);
        x.first(0, 51);
        due.is(x.fire(1), 1);
        due.is(x.fire(1), 1);
        due.is(x.fire(1), 1);
        due.is(x.things(0), 1);
        due.is(x.fire(1), 1);
        due.is(x.fire(1), 1);
        due.is(x.fire(1), 1);
        due.is(x.fire(1), 0);
    }

    private static void firstThings() {
        due.says(0, "FIRST THINGS of a LINE: 0 to 60, values told, 0 at first.");
        EvenFlow x = Flows.chain(1, 1);
        due.is(x.things(0), 0);
        due.is(x.first(0, -1), BAD);
        due.is(x.first(0, 61), BAD);
        due.is(x.first(0, 60), 60);
        due.are(Flows.things(x, 0), new long[60]);
        due.is(x.thing(0, 59, 4), 1);
        due.is(x.look(0, 59), 1);
        due.is(x.asked(), 4);
        due.is(x.first(0, 0), 0);
        due.is(x.things(0), 0);
    }

    private static void takenInOrder() {
        due.says(0, "Things are taken in the order in which they were given, FIRST THINGS ahead.");
        EvenFlow x = new EvenFlow();
        x.part(FIXED, 10, 0);
        x.part(FIXED, 0, 0);
        x.line(0, 2, 1, 1);
        x.first(0, 2);
        x.thing(0, 0, 5);
        x.thing(0, 1, 6);
        x.fire(0);
        due.are(Flows.things(x, 0), 5, 6, 10, 11);
        due.are(Flows.gives(x, 1, 4), 5, 6, 10, 11);
        // More than 400 things pass: none may be lost where the row in which they are held comes to its end.
        EvenFlow many = new EvenFlow();
        many.part(KEEPER, 1, 0);
        many.part(FIXED, 0, 0);
        many.line(0, 50, 1, 25);
        long sum = 0;
        for (int i = 1; i <= 40; i++) {
            many.fire(0);
            due.is(many.fire(1), 1);
            due.is(many.gave(), 25L * i + 25 * 24 / 2);
            due.is(many.fire(1), 1);
            due.is(many.gave(), 25L * (i + 25) + 25 * 24 / 2);
            sum += many.things(0);
        }
        due.is(sum, 0);
    }

    private static void traceIsEmptyAhead() {
        due.says(0, "each of which writes its number behind THE TRACE (empty ahead of a FIRING by fire()) as it begins");
        EvenFlow x = Flows.one(KEEPER, 0, 0);
        x.part(FIXED, 0, 0);
        due.is(x.trace(0), NONE);
        for (int turn = 0; turn < 3; turn++) {
            x.fire(0);
            due.are(Flows.trace(x, 5), 3, 2, 1, NONE, NONE);
            x.fire(1);
            due.are(Flows.trace(x, 5), 1, NONE, NONE, NONE, NONE);
        }
    }

    private static void fixed() {
        due.says(0, "1 of FIXED: the sum of all that it took, LINES by number, and K.");
        due.are(Flows.gives(Flows.one(FIXED, 7, 0), 0, 1), 7);
        EvenFlow x = Flows.one(FIXED, 1000, 0);
        x.line(0, 1, 0, 1);
        x.line(0, 1, 0, 3);
        x.first(0, 2);
        x.first(1, 4);
        for (int i = 0; i < 4; i++) {
            x.thing(0, i, 1 + i);
            x.thing(1, i, 10 + 10 * i);
        }
        x.fire(0);
        due.is(x.gave(), 1 + 10 + 20 + 30 + 1000);
        EvenFlow wrapping = Flows.fed(FIXED, MIN, 0, MAX, 2);
        wrapping.fire(0);
        wrapping.fire(1);
        due.is(wrapping.gave(), MAX);
    }

    private static void scaled() {
        due.says(0, "2 of SCALED: K times what 1 gives.");
        due.are(Flows.gives(Flows.one(SCALED, 7, 0), 0, 1), 49);
        due.are(Flows.gives(Flows.one(SCALED, MAX, 0), 0, 1), 1);
        due.are(Flows.gives(Flows.one(SCALED, MIN, 0), 0, 1), 0);
        EvenFlow x = Flows.fed(SCALED, 0, 0, 5, 1);
        x.fire(0);
        x.fire(1);
        due.is(x.gave(), 0);
        EvenFlow y = Flows.fed(SCALED, -3, 0, 5, 2);
        y.fire(0);
        y.fire(1);
        due.is(y.gave(), -3 * (5 + 6 - 3));
        due.are(Flows.trace(y, 3), 2, 1, NONE);
    }

    private static void keeper() {
        due.says(0, "3 of KEEPER: what 2 gives, and all that it kept (0 at first): that, kept from then on.");
        due.are(Flows.gives(Flows.one(KEEPER, 3, 0), 0, 4), 9, 18, 27, 36);
        long square = 3000000000L * 3000000000L;
        due.are(Flows.gives(Flows.one(KEEPER, 3000000000L, 0), 0, 3), square, square * 2, square * 3);
        // Each KEEPER keeps its own.
        EvenFlow x = Flows.one(KEEPER, 1, 0);
        x.part(KEEPER, 2, 0);
        x.fire(0);
        due.are(Flows.gives(x, 1, 2), 4, 8);
        due.are(Flows.gives(x, 0, 1), 2);
    }

    /** What a SHARE gives that takes these. */
    private static long shared(long k, long... taken) {
        EvenFlow x = Flows.one(SHARE, k, 0);
        x.part(FIXED, 0, 0);
        x.line(1, 1, 0, taken.length);
        x.first(0, taken.length);
        for (int i = 0; i < taken.length; i++) {
            x.thing(0, i, taken[i]);
        }
        return x.fire(0) == 1 ? x.gave() : MIN + 1;
    }

    private static void share() {
        due.says(0, "4 of SHARE: what 2 gives by the first thing that it took (of the least LINE), cut");
        due.is(shared(3, 2), 15 / 2);
        due.is(shared(-1, 2), 0);
        due.is(shared(3, -2), -1);
        due.is(shared(-3, -2), -7);
        due.is(shared(1, 4, 100, 1000), 1105 / 4);
        due.is(shared(1, 7, 0), 1);
        EvenFlow x = Flows.one(SHARE, 1, 0);
        x.part(FIXED, 0, 0);
        x.line(1, 1, 0, 2);
        x.line(1, 1, 0, 1);
        x.first(1, 1);
        x.first(0, 2);
        x.thing(1, 0, 1000);
        x.thing(0, 0, 10);
        x.thing(0, 1, 100);
        x.fire(0);
        due.is(x.gave(), 1111 / 10);
        due.says(0, "the least long by -1 is itself).");
        due.is(shared(MIN, -1), MIN);
        due.is(shared(MAX, -1), MAX - 1);
    }

    private static void shareNought() {
        due.says(0, "(NOUGHT: it is 0, or none was taken;");
        EvenFlow none = Flows.one(SHARE, 5, 0);
        due.is(none.fire(0), FINDING);
        due.is(none.finding(), NOUGHT);
        due.is(none.findings(NOUGHT), 1);
        // What comes behind the first thing does not help.
        EvenFlow zero = Flows.one(SHARE, 5, 0);
        zero.part(FIXED, 0, 0);
        zero.line(1, 1, 0, 2);
        zero.line(1, 1, 0, 1);
        zero.first(0, 2);
        zero.first(1, 1);
        zero.thing(0, 1, 8);
        zero.thing(1, 0, 8);
        due.is(zero.fire(0), FINDING);
        due.is(zero.finding(), NOUGHT);
        zero.thing(0, 0, 8);
        due.is(zero.fire(0), 1);
    }

    private static void phased() {
        due.says(0, "5 of PHASED: what 1 gives, and the PHASE.");
        due.are(Flows.gives(Flows.one(PHASED, 10, 3), 0, 7), 10, 11, 12, 10, 11, 12, 10);
        due.are(Flows.gives(Flows.one(PHASED, 10, 1), 0, 2), 10, 10);
        due.are(Flows.gives(Flows.one(PHASED, MAX, 2), 0, 2), MAX, MIN);
        EvenFlow x = Flows.fed(PHASED, 3, 4, 5, 1);
        for (int i = 0; i < 9; i++) {
            x.fire(0);
            x.fire(1);
            due.is(x.gave(), 5 + 3 + i % 4);
            due.are(Flows.trace(x, 3), 5, 1, NONE);
        }
    }

    private static void delay() {
        due.says(0, "6 of DELAY: what stands in its ROW's first place; the others move one down, and what 1 gives stands in the last");
        EvenFlow x = Flows.one(DELAY, 9, 3);
        for (int i = 0; i < 3; i++) {
            x.row(0, i, 5 + i);
        }
        due.are(Flows.gives(x, 0, 5), 5, 6, 7, 9, 9);
        due.are(Flows.trace(x, 3), 6, 1, NONE);
        due.are(Flows.gives(Flows.one(DELAY, 9, 1), 0, 3), 0, 9, 9);
        due.are(Flows.gives(Flows.one(DELAY, 9, 12), 0, 13), 0, 0, 0, 0, 0, 0, 0, 0, 0, 0, 0, 0, 9);
        due.says(0, "with 0 places: what 1 gives).");
        EvenFlow none = Flows.fed(DELAY, 9, 0, 4, 1);
        none.fire(0);
        due.is(none.fire(1), 1);
        due.is(none.gave(), 13);
        due.are(Flows.trace(none, 3), 6, 1, NONE);
    }

    private static void delayWithoutRow() {
        due.says(0, "(NOTHING, ahead of 1: it has no ROW;");
        for (int places = 0; places <= 12; places += 6) {
            EvenFlow x = Flows.one(DELAY, 9, places);
            x.tear(0);
            due.is(x.fire(0), FINDING);
            due.is(x.finding(), NOTHING);
            due.are(Flows.trace(x, 2), 6, NONE);
        }
    }

    private static void givesToEachLine() {
        due.says(0, "What THE WORK gives is v: the things v, v + 1, v + 2, .. go to each LINE, as many as its COUNT.");
        EvenFlow x = Flows.one(PHASED, 40, 2);
        x.part(FIXED, 0, 0);
        x.line(0, 1, 1, 1);
        x.line(0, 50, 1, 1);
        x.line(0, 3, 1, 1);
        x.count(2, false, 1, 0);
        x.fire(0);
        due.are(Flows.things(x, 0), 40);
        due.are(Flows.things(x, 2), 40, 41, 42);
        due.is(x.things(1), 50);
        x.look(1, 49);
        due.is(x.asked(), 89);
        x.fire(0);
        due.are(Flows.things(x, 0), 40, 41);
        due.are(Flows.things(x, 2), 40, 41, 42);
        due.is(x.things(1), 100);
        x.look(1, 99);
        due.is(x.asked(), 41 + 49);
    }

    private static void state() {
        due.says(0, "THE STATE: things on the LINES, PHASES, what is kept, ROWS: by FIRINGS (fire(), go()) it goes on from THE FIRST MARKING");
        EvenFlow x = Flows.one(KEEPER, 1, 0);
        x.part(PHASED, 0, 3);
        x.part(DELAY, 6, 1);
        x.line(0, 1, 2, 3);
        x.deal(1, 1);
        x.schedule(0);
        due.is(x.fire(1), 1);
        due.are(Flows.goes(x, 0, 0, 0), 0, 0, 0);
        due.is(x.gave(), 3);
        due.is(x.go(1), 1);
        due.is(x.gave(), 1);
        due.is(x.go(0), 2);
        due.is(x.gave(), 0);
        due.is(x.things(0), 0);
        x.fire(0);
        due.is(x.gave(), 4);
        x.fire(0);
        x.fire(0);
        x.fire(2);
        due.is(x.gave(), 1 + 2 + 3 + 6);
        due.is(x.many(2), 10);
    }

    private static void findingIsNoFiring() {
        due.says(0, "a FIRING whose WORK meets a FINDING is none.");
        EvenFlow x = Flows.one(SHARE, 1, 0);
        x.part(DELAY, 1, 1);
        x.line(0, 2, 1, 1);
        x.line(1, 1, 0, 1);
        x.first(0, 1);
        x.first(1, 3);
        x.tear(1);
        long before = x.digest();
        due.is(x.fire(0), FINDING);
        due.is(x.fire(1), FINDING);
        due.is(x.many(2), 0);
        due.is(x.things(0), 1);
        due.is(x.things(1), 3);
        due.is(x.given(0, 0), NONE);
        due.is(x.gave(), 0);
        due.is(x.digest(), before);
        due.is(x.reset(), 0);
    }

    private static void threads() {
        due.says(0, "THREADS 0 .. 3: PARTS are dealt to them (0 at first); a THREAD does, over and over, the FIRINGS of its PARTS in the order of the latest SCHEDULE.");
        EvenFlow x = Flows.chain(1, 2);
        x.part(FIXED, 0, 0);
        for (int p = 0; p < 3; p++) {
            due.is(x.told(p, 3), 0);
        }
        due.is(x.deal(0, 4), BAD);
        due.is(x.deal(0, -1), BAD);
        x.schedule(2);
        due.are(Flows.latest(x), 0, 2, 0, 1);
        due.are(Flows.goes(x, 0, 0, 0, 0, 0, 0, 0, 0, 0), 0, 2, 0, 1, 0, 2, 0, 1, 0);
        due.is(x.deal(2, 3), 0);
        due.are(Flows.goes(x, 3, 3, 3, 0, 0, 0, 0), 2, 2, 2, 0, 0, 1, 0);
        due.is(x.go(1), STATE);
        due.is(x.go(2), STATE);
    }
}
