/** The edges that the document names ahead of promise 1, in its terms of ROUNDS, SCHEDULES and THE BEAT, sentence by sentence. */
public final class RoundTermsEdgesTest {
    private static final int FINDING = EvenFlow.FINDING, STATE = EvenFlow.STATE, SPENT = EvenFlow.SPENT, NONE = EvenFlow.NONE, BAD = EvenFlow.BAD;
    private static final int FIXED = 0, PHASED = 4;
    private static final Due due = new Due();

    public static void main(String[] args) {
        fewest();
        wholeRows();
        ownFewest();
        unevenFirst();
        unevenByWays();
        unevenToItself();
        unevenPhases();
        unevenNought();
        noughtsTieNothing();
        spentProportion();
        spentInLowestTerms();
        spentByRows();
        spentOrUnevenFirst();
        spentByFirings();
        firstMarking();
        mayFire();
        scheduleIsRound();
        storeIsMost();
        stuck();
        ruleNought();
        ruleOne();
        ruleTwo();
        whatLacks();
        losesAgain();
        theLeast();
        theLeastByPhases();
        triesAreLeft();
        onceRing();
        onceOrder();
        onceBrackets();
        onceStores();
        onceAgain();
        shortestFirstHalf();
        times();
        waitsInRounds();
        waitsIfItTakes();
        lowestTerms();
        due.end();
    }

    private static long[] firings(EvenFlow x) {
        long[] all = new long[x.many(0)];
        for (int p = 0; p < all.length; p++) {
            all[p] = x.firings(p);
        }
        return all;
    }

    private static void fewest() {
        due.says(0, "A ROUND: FIRINGS of each PART, one at least, the fewest with which as many things are given to each LINE as are taken");
        due.are(firings(Flows.parts(1)), 1);
        due.are(firings(Flows.chain(6, 4)), 2, 3);
        due.are(firings(Flows.chain(50, 50)), 1, 1);
        due.are(firings(Flows.chain(1, 50)), 50, 1);
        due.are(firings(Flows.chain(4, 6, 10, 4, 3, 5)), 3, 2, 5, 3);
        due.are(firings(Flows.chain(3, 2, 2, 3)), 2, 3, 2);
        EvenFlow self = Flows.parts(1);
        self.line(0, 7, 0, 7);
        due.are(firings(self), 1);
    }

    private static void wholeRows() {
        due.says(0, "(of a PHASED PART whole rows of its PHASES;");
        due.are(firings(Flows.one(PHASED, 0, 4)), 4);
        EvenFlow x = Flows.one(PHASED, 0, 2);
        x.part(FIXED, 0, 0);
        x.line(0, 1, 1, 1);
        due.are(firings(x), 2, 2);
        x.part(PHASED, 0, 3);
        x.line(1, 3, 2, 2);
        due.are(firings(x), 2, 2, 3);
        x.count(1, true, 0, 50);
        due.are(firings(x), 2 * 9, 18, 3);
    }

    private static void ownFewest() {
        due.says(0, "PARTS that no LINES tie have their own fewest).");
        EvenFlow x = Flows.parts(5);
        x.line(0, 2, 2, 5);
        x.line(1, 3, 3, 1);
        due.are(firings(x), 5, 1, 2, 3, 1);
        due.is(x.round(), 12);
    }

    private static void unevenFirst() {
        due.says(0, "If there is none it is UNEVEN at a LINE: the first by number whose PARTS the LINES before it tie in another proportion");
        EvenFlow x = Flows.chain(1, 2);
        x.line(0, 2, 1, 4);
        due.is(x.uneven(), NONE);
        x.line(0, 2, 1, 3);
        due.is(x.uneven(), 2);
        x.line(0, 2, 1, 1);
        x.line(0, 1, 1, 2);
        due.is(x.uneven(), 2);
        due.is(x.round(), NONE);
        // The LINES before it, not those behind, tell the proportion.
        EvenFlow y = Flows.chain(1, 1);
        y.line(0, 1, 1, 2);
        y.line(0, 2, 1, 4);
        due.is(y.uneven(), 1);
        // From the second to the first it is the same proportion turned.
        EvenFlow z = Flows.chain(3, 2);
        z.line(1, 2, 0, 3);
        due.is(z.uneven(), NONE);
        z.line(1, 3, 0, 2);
        due.is(z.uneven(), 2);
    }

    private static void unevenByWays() {
        due.says(0, "(by ways of them;");
        EvenFlow x = Flows.chain(1, 2, 1, 2, 1, 2);
        x.line(0, 1, 3, 8);
        due.is(x.uneven(), NONE);
        x.line(3, 9, 0, 1);
        due.is(x.uneven(), 4);
        // Two ties that a third one joins.
        EvenFlow y = Flows.parts(4);
        y.line(0, 1, 1, 2);
        y.line(3, 1, 2, 3);
        y.line(0, 1, 3, 1);
        y.line(1, 2, 2, 3);
        due.is(y.uneven(), NONE);
        y.line(2, 2, 1, 3);
        due.is(y.uneven(), 4);
    }

    private static void unevenToItself() {
        due.says(0, "one from a PART to itself: if its COUNTS are unlike;");
        EvenFlow x = Flows.parts(2);
        x.line(1, 50, 1, 50);
        due.is(x.uneven(), NONE);
        x.line(1, 50, 1, 49);
        due.is(x.uneven(), 1);
        EvenFlow y = Flows.parts(1);
        y.line(0, 1, 0, 2);
        due.is(y.uneven(), 0);
    }

    private static void unevenPhases() {
        due.says(0, "COUNTS of a PHASED one: all PHASES together;");
        EvenFlow x = Flows.one(PHASED, 0, 3);
        x.part(FIXED, 0, 0);
        x.line(0, 1, 1, 3);
        x.line(0, 2, 1, 6);
        due.is(x.uneven(), NONE);
        x.count(1, false, 0, 0);
        due.is(x.uneven(), 1);
        x.count(1, false, 2, 4);
        due.is(x.uneven(), NONE);
        due.are(firings(x), 3, 1);
        x.line(0, 1, 0, 1);
        x.count(2, false, 1, 5);
        due.is(x.uneven(), 2);
        x.count(2, true, 2, 5);
        due.is(x.uneven(), NONE);
    }

    private static void unevenNought() {
        due.says(0, "where such a sum is 0 and the other is not: that LINE).");
        EvenFlow x = Flows.one(PHASED, 0, 2);
        x.part(PHASED, 0, 1);
        x.line(0, 1, 1, 1);
        x.count(0, false, 0, 0);
        due.is(x.uneven(), NONE);
        x.count(0, false, 1, 0);
        due.is(x.uneven(), 0);
        due.is(x.round(), NONE);
        x.count(0, false, 1, 1);
        x.count(0, true, 0, 0);
        due.is(x.uneven(), 0);
        EvenFlow self = Flows.one(PHASED, 0, 1);
        self.line(0, 1, 0, 1);
        self.count(0, true, 0, 0);
        due.is(self.uneven(), 0);
    }

    private static void noughtsTieNothing() {
        due.says(0, "LINES on which both sums are 0 tie nothing.");
        EvenFlow x = Flows.one(PHASED, 0, 1);
        x.part(PHASED, 0, 1);
        x.line(0, 1, 1, 1);
        x.count(0, false, 0, 0);
        x.count(0, true, 0, 0);
        due.is(x.uneven(), NONE);
        x.line(0, 3, 1, 5);
        due.is(x.uneven(), NONE);
        due.are(firings(x), 5, 3);
        x.line(0, 1, 1, 1);
        due.is(x.uneven(), 2);
        EvenFlow self = Flows.one(PHASED, 0, 2);
        self.line(0, 1, 0, 1);
        for (int phase = 0; phase < 2; phase++) {
            self.count(0, false, phase, 0);
            self.count(0, true, phase, 0);
        }
        due.is(self.uneven(), NONE);
        due.is(self.round(), 2);
        due.is(self.stuck(), 0);
        due.is(self.beat(false), 2);
    }

    /** Whether it is SPENT by LINES: an UNEVEN LINE behind them is not met then. */
    private static void isSpentByLines(EvenFlow x, boolean spent) {
        int last = x.line(0, 1, 0, 2);
        due.are(new long[] {x.round(), x.uneven()}, spent ? SPENT : NONE, spent ? NONE : last);
    }

    private static void spentProportion() {
        due.says(0, "It is SPENT at the first LINE behind which two PARTS that LINES tie have rows of PHASES (FIRINGS of others) in a proportion of which, in lowest terms, a number is above 1000000");
        isSpentByLines(Flows.chain(50, 1, 50, 1, 50, 1, 8, 1), false);
        isSpentByLines(Flows.chain(1, 50, 1, 50, 1, 50, 1, 8), false);
        // 17 * 19 * 43 * 36 * 2 = 1000008
        isSpentByLines(Flows.chain(17, 1, 19, 1, 43, 1, 36, 1, 2, 1), true);
        isSpentByLines(Flows.chain(1, 17, 1, 19, 1, 43, 1, 36, 1, 2), true);
        // Of 1000008 to 7, too; 999999 to 1000000 is none such.
        isSpentByLines(Flows.chain(17, 7, 19, 1, 43, 1, 36, 1, 2, 1), true);
        isSpentByLines(Flows.chain(50, 27, 50, 37, 50, 13, 8, 7, 1, 11), false);
        // Two PARTS of which neither is an end of the LINE that ties them.
        EvenFlow far = Flows.parts(6);
        far.line(1, 50, 0, 1);
        far.line(2, 21, 1, 1);
        far.line(4, 1, 3, 50);
        far.line(5, 1, 4, 20);
        far.line(2, 1, 5, 1);
        isSpentByLines(far, true);
        EvenFlow near = Flows.parts(6);
        near.line(1, 50, 0, 1);
        near.line(2, 20, 1, 1);
        near.line(4, 1, 3, 50);
        near.line(5, 1, 4, 20);
        near.line(2, 1, 5, 1);
        isSpentByLines(near, false);
        // PARTS that no LINES tie are in no proportion.
        EvenFlow apart = Flows.parts(6);
        apart.line(1, 50, 0, 1);
        apart.line(2, 21, 1, 1);
        apart.line(4, 1, 3, 50);
        apart.line(5, 1, 4, 20);
        isSpentByLines(apart, false);
    }

    private static void spentInLowestTerms() {
        due.says(0, "in lowest terms, a number is above 1000000");
        isSpentByLines(Flows.chain(50, 49, 49, 48, 48, 47, 47, 46, 46, 45, 45, 44), false);
        isSpentByLines(Flows.chain(50, 1, 50, 1, 50, 1, 1, 50, 50, 1), false);
        isSpentByLines(Flows.chain(50, 1, 50, 1, 50, 1, 50, 25, 25, 10), false);
        isSpentByLines(Flows.chain(1, 50, 1, 50, 1, 50, 25, 50, 10, 25), false);
        isSpentByLines(Flows.chain(6, 50, 6, 50, 6, 50, 6, 50, 6, 40), true);
        isSpentByLines(Flows.chain(6, 50, 6, 50, 6, 50, 6, 48), false);
        isSpentByLines(Flows.chain(50, 1, 50, 1, 50, 1, 1, 50, 50, 1, 50, 1), true);
    }

    private static void spentByRows() {
        due.says(0, "have rows of PHASES (FIRINGS of others) in a proportion");
        EvenFlow x = Flows.chain(50, 1, 50, 1, 50, 1);
        x.part(PHASED, 0, 4);
        x.line(3, 32, 4, 1);
        isSpentByLines(x, false);
        // 106 * 106 * 89 = 1000004
        EvenFlow y = Flows.one(PHASED, 0, 3);
        for (int p = 1; p < 4; p++) {
            y.part(PHASED, 0, 3);
        }
        int[][] gives = {{50, 50, 6}, {50, 50, 6}, {50, 39, 0}};
        for (int l = 0; l < 3; l++) {
            y.line(l, 50, l + 1, 1);
            for (int phase = 0; phase < 3; phase++) {
                y.count(l, false, phase, gives[l][phase]);
                y.count(l, true, phase, phase == 0 ? 1 : 0);
            }
        }
        isSpentByLines(y, true);
    }

    private static void spentOrUnevenFirst() {
        due.says(0, "(what comes first by LINES, UNEVEN or this, is it);");
        EvenFlow x = Flows.spentByLines();
        x.line(0, 1, 0, 2);
        due.is(x.round(), SPENT);
        due.is(x.uneven(), NONE);
        due.is(x.schedule(0), SPENT);
        EvenFlow y = Flows.parts(5);
        y.line(0, 1, 0, 2);
        for (int l = 0; l < 4; l++) {
            y.line(l, 50, l + 1, 1);
        }
        due.is(y.round(), NONE);
        due.is(y.uneven(), 0);
        due.is(y.schedule(0), STATE);
        // SPENT by FIRINGS is behind UNEVEN, where ever the LINE stands.
        EvenFlow z = Flows.spent();
        due.is(z.round(), SPENT);
        z.line(0, 1, 0, 2);
        due.is(z.round(), NONE);
        due.is(z.uneven(), 2);
    }

    private static void spentByFirings() {
        due.says(0, "and if a PART has more than 1000 FIRINGS in it, or all together more than 2000.");
        due.is(Flows.chain(50, 1, 20, 1).round(), 1051);
        due.is(Flows.chain(1, 50, 1, 20).round(), 1000 + 20 + 1);
        due.is(Flows.chain(7, 1, 11, 1, 13, 1).round(), SPENT);
        due.is(Flows.chain(1, 7, 1, 11, 1, 13).round(), SPENT);
        // 1000 FIRINGS of PART 0 for PARTS 1 and 2, but 3000 for PART 3.
        EvenFlow thrice = Flows.chain(1, 50, 1, 20);
        thrice.part(FIXED, 0, 0);
        thrice.line(0, 1, 3, 3);
        due.is(thrice.round(), SPENT);
        due.is(thrice.uneven(), NONE);
        EvenFlow rows = Flows.chain(50, 1);
        rows.part(PHASED, 0, 4);
        rows.line(1, 5, 2, 1);
        rows.count(0, false, 0, 0);
        for (int phase = 1; phase < 4; phase++) {
            rows.count(1, true, phase, 0);
        }
        due.are(firings(rows), 1, 50, 1000);
        EvenFlow more = Flows.chain(42, 1);
        more.part(PHASED, 0, 4);
        more.line(1, 6, 2, 1);
        for (int phase = 1; phase < 4; phase++) {
            more.count(1, true, phase, 0);
        }
        due.is(more.round(), SPENT);
        EvenFlow all = Flows.chain(25, 1, 40, 1);
        all.part(FIXED, 0, 0);
        all.line(1, 38, 3, 1);
        all.part(FIXED, 0, 0);
        all.line(0, 24, 4, 1);
        due.are(firings(all), 1, 25, 1000, 950, 24);
        due.is(all.round(), 2000);
        due.is(all.schedule(2) > 0 ? all.many(3) : 0, 2000);
        all.part(FIXED, 0, 0);
        due.is(all.round(), SPENT);
    }

    private static void firstMarking() {
        due.says(0, "THE FIRST ONE: the FIRST THINGS, PHASES 0.");
        EvenFlow x = Flows.one(PHASED, 0, 2);
        x.line(0, 1, 0, 1);
        x.count(0, false, 0, 2);
        x.count(0, false, 1, 0);
        x.count(0, true, 0, 0);
        x.count(0, true, 1, 2);
        due.is(x.may(0), 1);
        due.is(x.schedule(0), 2);
        x.first(0, 3);
        due.is(x.schedule(0), 5);
        due.is(x.marking(0, 0), 3);
        x.fire(0);
        due.is(x.things(0), 5);
        due.is(x.schedule(0), 5);
        due.is(x.marking(0, 0), 3);
    }

    private static void mayFire() {
        due.says(0, "A PART MAY FIRE if no LINE to it has fewer things than it takes.");
        EvenFlow x = Flows.parts(2);
        x.line(0, 1, 1, 3);
        x.line(0, 1, 1, 2);
        due.is(x.may(0), 1);
        x.first(0, 3);
        due.is(x.may(1), 0);
        x.first(1, 1);
        due.is(x.may(1), 0);
        x.first(1, 2);
        due.is(x.may(1), 1);
        x.first(0, 2);
        due.is(x.may(1), 0);
        // What a PART gives itself at a FIRING it can't take at it.
        EvenFlow self = Flows.parts(1);
        self.line(0, 2, 0, 2);
        self.first(0, 1);
        due.is(self.may(0), 0);
        due.is(self.stuck(), 1);
    }

    private static void scheduleIsRound() {
        due.says(0, "A SCHEDULE is a row of FIRINGS from THE FIRST MARKING on, each of a PART that MAY FIRE then, which is a ROUND.");
        EvenFlow x = Flows.chain(2, 1);
        due.is(Flows.checked(x, 0, 1, 1), 2);
        due.is(Flows.checked(x, 0, 1), -12);
        due.is(Flows.checked(x, 1, 0, 1), -10);
        due.is(Flows.checked(x, 0, 1, 1, 0), -13);
        due.is(Flows.checked(x, 0, 0, 1, 1, 1, 1), -11);
        // FIRINGS by fire() do not help.
        x.fire(0);
        due.is(Flows.checked(x, 1, 1, 0), -10);
    }

    private static void storeIsMost() {
        due.says(0, "Its STORE on a LINE: the most things that are on it (at first, or behind a FIRING).");
        EvenFlow x = Flows.chain(1, 1);
        x.first(0, 9);
        due.is(x.schedule(1), 9);
        due.is(x.store(0), 9);
        due.is(x.schedule(0), 10);
        due.is(x.store(0), 10);
        // A FIRING takes and gives at once: in between there is nothing to store.
        EvenFlow self = Flows.parts(1);
        self.line(0, 5, 0, 5);
        self.first(0, 5);
        due.is(self.schedule(0), 5);
        EvenFlow phased = Flows.one(PHASED, 0, 2);
        phased.line(0, 3, 0, 3);
        phased.count(0, false, 0, 6);
        phased.count(0, false, 1, 0);
        phased.first(0, 4);
        due.is(phased.schedule(0), 7);
        due.is(phased.marking(2, 0), 4);
    }

    private static void stuck() {
        due.says(0, "THE GRAPH is STUCK if there is a ROUND and no SCHEDULE.");
        due.is(Flows.parts(1).stuck(), 0);
        due.is(Flows.ring(0, 0, 0).stuck(), 1);
        due.is(Flows.ring(0, 1, 0).stuck(), 0);
        EvenFlow x = Flows.chain(2, 1);
        x.line(1, 1, 0, 2);
        x.first(0, 1);
        due.is(x.stuck(), 1);
        x.first(1, 1);
        due.is(x.stuck(), 0);
        due.is(x.schedule(0) > 0 ? x.firing(0) : NONE, 1);
        x.first(0, 0);
        due.is(x.stuck(), 1);
        x.first(1, 2);
        due.is(x.stuck(), 0);
        due.is(Flows.uneven().stuck(), STATE);
        due.is(Flows.spent().stuck(), SPENT);
    }

    private static void ruleNought() {
        due.says(0, "BY A RULE: each time, of the PARTS that have FIRINGS left in the ROUND and MAY FIRE: 0 the least one;");
        EvenFlow x = Flows.parts(3);
        x.line(2, 1, 0, 2);
        x.schedule(0);
        due.are(Flows.latest(x), 1, 2, 2, 0);
        EvenFlow y = Flows.parts(2);
        y.line(1, 3, 0, 1);
        y.schedule(0);
        due.are(Flows.latest(y), 1, 0, 0, 0);
        EvenFlow z = Flows.chain(1, 1);
        z.first(0, 5);
        z.schedule(0);
        due.are(Flows.latest(z), 0, 1);
    }

    private static void ruleOne() {
        due.says(0, "1 that behind whose FIRING all LINES together have fewest things (the least one of these);");
        EvenFlow x = Flows.parts(4);
        x.line(0, 3, 3, 3);
        x.line(1, 2, 3, 2);
        x.line(2, 2, 3, 2);
        x.schedule(1);
        due.are(Flows.latest(x), 1, 2, 0, 3);
        // What it takes counts, too, and all of its LINES together.
        EvenFlow y = Flows.chain(1, 1, 1, 1);
        y.first(0, 1);
        y.schedule(1);
        due.are(Flows.latest(y), 1, 2, 0);
        y.line(1, 1, 2, 1);
        y.schedule(1);
        due.are(Flows.latest(y), 0, 1, 2);
        y.line(0, 1, 2, 1);
        y.schedule(1);
        due.are(Flows.latest(y), 1, 0, 2);
        // A LINE from a PART to itself is both given to and taken from.
        EvenFlow self = Flows.chain(1, 1);
        self.line(0, 50, 0, 50);
        self.first(0, 1);
        self.first(1, 50);
        self.part(PHASED, 0, 1);
        self.schedule(1);
        due.are(Flows.latest(self), 1, 2, 0);
    }

    private static void ruleTwo() {
        due.says(0, "2 that which fired longest ago (those that never did first; the least one of these).");
        EvenFlow x = new EvenFlow();
        x.part(PHASED, 0, 3);
        x.part(PHASED, 0, 1);
        x.part(PHASED, 0, 2);
        x.schedule(2);
        due.are(Flows.latest(x), 0, 1, 2, 0, 2, 0);
        // One that could not fire before comes ahead of those that did.
        EvenFlow y = Flows.parts(3);
        y.line(1, 2, 0, 1);
        y.line(2, 1, 1, 1);
        y.schedule(2);
        due.are(Flows.latest(y), 2, 1, 0, 0);
        EvenFlow z = new EvenFlow();
        z.part(PHASED, 0, 4);
        z.part(FIXED, 0, 0);
        z.part(PHASED, 0, 4);
        z.line(0, 1, 1, 2);
        z.schedule(2);
        due.are(Flows.latest(z), 0, 2, 0, 1, 2, 0, 2, 0, 1, 2);
    }

    private static long[] lacks(EvenFlow x) {
        long[] all = new long[x.many(1)];
        for (int l = 0; l < all.length; l++) {
            all[l] = x.lacks(l);
        }
        return all;
    }

    private static void whatLacks() {
        due.says(0, "WHAT LACKS: when STUCK: BY RULE 0; each time none may, and some are left: of the least PART that is left each LINE to it gets as many things more as it lacks.");
        due.are(lacks(Flows.ring(0, 0, 0)), 0, 0, 1);
        due.are(lacks(Flows.ring(0, 1, 0)), 0, 0, 0);
        EvenFlow self = Flows.parts(2);
        self.line(1, 50, 1, 50);
        self.line(1, 4, 1, 4);
        self.first(0, 20);
        self.first(1, 4);
        due.are(lacks(self), 30, 0);
        // All PARTS go on as far as they can, and only then the least one gets what it lacks.
        EvenFlow x = Flows.chain(2, 1);
        x.line(1, 1, 0, 2);
        x.first(0, 1);
        due.are(lacks(x), 0, 1);
        // More than once.
        EvenFlow apart = Flows.parts(4);
        apart.line(0, 1, 1, 1);
        apart.line(1, 1, 0, 1);
        apart.line(2, 3, 3, 3);
        apart.line(3, 3, 2, 3);
        due.are(lacks(apart), 0, 1, 0, 3);
    }

    private static void losesAgain() {
        due.says(0, "Then, LINE by LINE, by number, each of these loses again as many as it can, one by one, the GRAPH being not STUCK.");
        EvenFlow x = Flows.parts(3);
        x.line(1, 1, 0, 1);
        x.line(2, 1, 1, 1);
        x.line(1, 1, 2, 1);
        due.are(lacks(x), 0, 1, 0);
        // PART 0 gets 3 things on LINE 0; one of them PART 1 gives, once it has what it lacks of PART 2.
        EvenFlow y = Flows.parts(3);
        y.line(1, 1, 0, 3);
        y.line(0, 3, 1, 1);
        y.line(2, 1, 1, 1);
        y.line(1, 1, 2, 1);
        y.first(1, 1);
        due.are(lacks(y), 2, 0, 1, 0);
        y.first(1, 0);
        due.are(lacks(y), 3, 0, 1, 0);
        y.first(1, 3);
        due.are(lacks(y), 0, 0, 1, 0);
        // All of 50.
        EvenFlow many = Flows.parts(3);
        many.line(1, 50, 0, 50);
        many.line(2, 1, 1, 1);
        many.line(1, 1, 2, 1);
        due.are(lacks(many), 0, 1, 0);
        // 40 of 50.
        EvenFlow some = Flows.parts(3);
        some.line(1, 1, 0, 50);
        some.line(0, 50, 1, 1);
        some.line(2, 1, 1, 1);
        some.line(1, 1, 2, 1);
        some.first(1, 40);
        due.are(lacks(some), 10, 0, 1, 0);
        // FIRST THINGS are not lost.
        EvenFlow z = Flows.ring(0, 0);
        z.line(0, 1, 1, 1);
        z.first(2, 5);
        due.are(lacks(z), 0, 1, 0);
        due.is(z.ends(2, 4), 5);
    }

    private static void theLeast() {
        due.says(0, "THE LEAST: of all SCHEDULES those with the least sum of STORES, of these the first one (by PARTS, FIRING by FIRING).");
        EvenFlow x = Flows.chain(2, 3, 1, 2);
        due.is(x.least(20000), 6);
        due.are(Flows.latest(x), 0, 0, 1, 0, 1, 2);
        EvenFlow y = Flows.parts(3);
        due.is(y.least(20000), 0);
        due.are(Flows.latest(y), 0, 1, 2);
        // PART 1 ahead of PART 0: the thing is taken before another comes.
        EvenFlow z = Flows.chain(1, 1);
        z.first(0, 1);
        due.is(z.least(20000), 1);
        due.are(Flows.latest(z), 1, 0);
        // Of several with the least sum it is the first: PART 2 may come anywhere.
        z.part(FIXED, 0, 0);
        due.is(z.least(20000), 1);
        due.are(Flows.latest(z), 1, 0, 2);
    }

    /** PHASES are taken back with the TRIES that are left. */
    private static void theLeastByPhases() {
        due.says(0, "THE LEAST: of all SCHEDULES those with the least sum of STORES, of these the first one");
        EvenFlow x = Flows.one(PHASED, 0, 4);
        x.part(PHASED, 0, 3);
        x.line(0, 1, 1, 1);
        int[] gives = {3, 0, 2, 1};
        int[] takes = {1, 4, 1};
        for (int phase = 0; phase < 4; phase++) {
            x.count(0, false, phase, gives[phase]);
        }
        for (int phase = 0; phase < 3; phase++) {
            x.count(0, true, phase, takes[phase]);
        }
        // 3 things, one taken; 4, all taken; 1, taken.
        due.is(x.least(20000), 4);
        due.are(Flows.latest(x), 0, 0, 1, 0, 1, 0, 1);
        x.first(0, 2);
        // 2, one taken, then 4: all taken; 0, then 3, of which one is taken.
        due.is(x.least(20000), 4);
        due.are(Flows.latest(x), 1, 0, 0, 1, 0, 0, 1);
    }

    private static void triesAreLeft() {
        due.says(0, "It is found by TRIES: in this order all PARTS that have FIRINGS left and MAY FIRE are tried, as deep as it goes; a TRY behind which the sum of STORES so far is not less than that of the best one that is found is left at once.");
        for (int n = 1; n <= 8; n++) {
            EvenFlow x = Flows.parts(n);
            due.is(x.least(20000), 0);
            due.is(x.tries(), n * (n + 1) / 2);
        }
        EvenFlow x = Flows.chain(39, 1);
        due.is(x.least(20000), 39);
        due.is(x.tries(), 40);
        // 0 (sum 2), 1 (2): best. Then 1 (1), 0 (1): best. What the best one has can't be had for less.
        EvenFlow y = Flows.chain(1, 1);
        y.first(0, 1);
        due.is(y.least(20000), 1);
        due.is(y.tries(), 4);
        // 0 1 2 (2); 0 2; 1 0 2 (1); 1 2; 2: the last two are left at once.
        y.part(FIXED, 0, 0);
        due.is(y.least(20000), 1);
        due.is(y.tries(), 3 + 1 + 3 + 1 + 1);
    }

    private static void onceRing() {
        due.says(0, "ONCE: if LINES with things to give make no ring (one from a PART to itself is one)");
        due.is(Flows.ring(1, 1).once(), NONE);
        due.is(Flows.ring(9, 9, 9).once(), NONE);
        due.is(Flows.ring(1).once(), NONE);
        EvenFlow x = Flows.ring(0, 0);
        x.part(FIXED, 0, 0);
        x.line(2, 1, 0, 1);
        due.is(x.once(), NONE);
        EvenFlow y = Flows.chain(1, 1, 1, 1);
        y.line(0, 1, 2, 1);
        due.is(y.once(), 3);
        EvenFlow phased = Flows.one(PHASED, 0, 1);
        phased.line(0, 1, 0, 1);
        phased.count(0, false, 0, 0);
        phased.count(0, true, 0, 0);
        due.is(phased.once(), FINDING);
    }

    private static void onceOrder() {
        due.says(0, "the PARTS in a row, each time the least one to which no LINE leads from one that is left;");
        EvenFlow x = Flows.parts(5);
        x.line(4, 1, 0, 1);
        x.line(3, 1, 1, 1);
        due.is(x.once(), 2);
        due.are(Flows.latest(x), 2, 3, 1, 4, 0);
        EvenFlow y = Flows.parts(4);
        y.line(3, 1, 2, 1);
        y.line(2, 1, 1, 1);
        y.line(1, 1, 0, 1);
        due.is(y.once(), 3);
        due.are(Flows.latest(y), 3, 2, 1, 0);
    }

    private static void onceBrackets() {
        due.says(0, "then brackets: a row of one PART is its FIRINGS; of several it is parted in two, each done by itself, over and over: g times, g being the greatest that divides the FIRINGS of all of them;");
        EvenFlow x = Flows.parts(1);
        due.is(x.once(), 0);
        due.are(Flows.brackets(x, 2), -1, NONE);
        // 1, 4, 6 FIRINGS: PARTS 1 and 2 are done twice, 2 and 3 of them.
        EvenFlow y = Flows.chain(4, 1, 3, 2);
        due.is(y.once(), 4 + 6);
        due.are(Flows.brackets(y, 11), -1, 3, 3, -2, 0, 4, -3, 0, 0, NONE, NONE);
        due.are(Flows.latest(y), 0, 1, 1, 2, 2, 2, 1, 1, 2, 2, 2);
        due.says(0, "(The whole: with its g.)");
        // Three PARTS that no LINES tie: the whole is done once, whatever they have.
        EvenFlow z = Flows.parts(4);
        z.line(0, 2, 1, 1);
        z.line(2, 2, 3, 1);
        due.is(z.once(), 4);
        due.are(Flows.brackets(z, 9), -1, 3, -2, 0, -3, 3, -4, 0, NONE);
    }

    private static void onceStores() {
        due.says(0, "on a LINE from the first to the second STORE: its things in a ROUND by g, and FIRST THINGS.");
        EvenFlow x = Flows.chain(4, 1, 3, 2);
        x.first(0, 60);
        x.first(1, 7);
        due.is(x.once(), 64 + 6 + 7);
        due.is(x.store(0), 64);
        due.is(x.store(1), 13);
        // A LINE over another PART is parted further out.
        x.line(0, 6, 2, 1);
        due.is(x.once(), 64 + 13 + 6);
        due.is(x.store(2), 6);
    }

    /** Another graph, another row: nothing of the one before is left. */
    private static void onceAgain() {
        due.says(0, "each time the least one to which no LINE leads from one that is left;");
        EvenFlow x = Flows.parts(3);
        due.is(x.once(), 0);
        due.are(Flows.latest(x), 0, 1, 2);
        x.line(2, 1, 0, 2);
        due.is(x.once(), 2);
        due.are(Flows.latest(x), 1, 2, 2, 0);
        due.are(Flows.brackets(x, 6), -2, 3, -3, 0, -1, NONE);
        x.line(0, 1, 1, 3);
        due.is(x.once(), 2 + 3);
        due.are(Flows.brackets(x, 9), 4, 3, -3, 0, -1, 0, -2, NONE, NONE);
        due.are(Flows.latest(x), 2, 2, 0, 2, 2, 0, 2, 2, 0, 1);
    }

    private static void shortestFirstHalf() {
        due.says(0, "The brackets with the least sum of STORES; of several ways to part a row the one with the shortest first half.");
        // 2, 4, 1 FIRINGS: behind PART 1 it is 2 + 4, behind PART 0 it is 4 + 4.
        EvenFlow x = Flows.chain(2, 1, 1, 4);
        due.is(x.once(), 2 + 4);
        due.are(Flows.brackets(x, 8), 3, -1, 3, -2, 0, 0, -3, NONE);
        // 6, 4, 1 FIRINGS without a LINE between PARTS 0 and 1: both ways are 10.
        EvenFlow y = Flows.parts(3);
        y.line(1, 1, 2, 4);
        y.line(0, 1, 2, 6);
        due.is(y.once(), 10);
        due.are(Flows.brackets(y, 8), 7, -1, 0, 5, -2, 0, -3, NONE);
        // 1, 12, 18, 4 FIRINGS: parted behind PART 0, then behind PART 2, then behind PART 1.
        EvenFlow w = Flows.chain(12, 1, 3, 2, 2, 9);
        due.is(w.once(), 12 + 6 + 18);
        due.are(Flows.brackets(w, 16), -1, 3, 4, 3, -2, 0, 4, -3, 0, 0, 3, -4, 0, 0, NONE, NONE);
        // Things, not FIRINGS, are stored: 2, 2, 1, and a LINE over PART 1.
        EvenFlow v = Flows.chain(50, 50, 1, 2);
        v.line(0, 1, 2, 2);
        due.is(v.once(), 50 + 2 + 2);
        due.are(Flows.brackets(v, 7), 3, -1, -2, 0, -3, NONE, NONE);
        // 2 FIRINGS of each but the last: all ways but the last one store less inside.
        EvenFlow z = Flows.parts(4);
        z.line(0, 1, 3, 2);
        z.line(1, 1, 3, 2);
        z.line(2, 1, 3, 2);
        due.is(z.once(), 6);
        due.are(Flows.brackets(z, 11), 3, -1, 0, 3, -2, 0, 3, -3, 0, -4, NONE);
    }

    private static void beatIs(EvenFlow x, int upper, int lower) {
        due.are(new long[] {x.beat(false), x.beat(true)}, upper, lower);
    }

    private static void times() {
        due.says(0, "THE BEAT: PARTS have TIMES (0 .. 1000, 1 at first); a PART does one FIRING behind the other.");
        EvenFlow x = Flows.parts(1);
        due.is(x.told(0, 2), 1);
        due.is(x.time(0, -1), BAD);
        due.is(x.time(0, 1001), BAD);
        beatIs(x, 1, 1);
        due.is(x.time(0, 1000), 1);
        beatIs(x, 1000, 1);
        due.is(x.time(0, 0), 1000);
        beatIs(x, 0, 1);
        EvenFlow y = Flows.one(PHASED, 0, 4);
        y.time(0, 1000);
        beatIs(y, 4000, 1);
        EvenFlow z = Flows.chain(50, 1);
        z.time(1, 1000);
        beatIs(z, 50000, 1);
    }

    private static void waitsInRounds() {
        due.says(0, "FIRING j of a PART (0, 1, .. in a ROUND, those of the next ROUND behind them, of the one before ahead of them) waits for its own FIRING j - 1, and on each LINE to it (if it takes any) for that FIRING of the other PART, the first one, with which, and with the FIRST THINGS, as many things were ever given as FIRINGS up to j take.");
        beatIs(Flows.ring(1, 0, 0, 0, 0, 0), 6, 1);
        beatIs(Flows.ring(5, 0, 0, 0, 0, 0), 6, 5);
        beatIs(Flows.ring(1, 1, 1, 1, 1, 0), 6, 5);
        beatIs(Flows.ring(6, 0, 0, 0, 0, 0), 1, 1);
        beatIs(Flows.ring(7, 0, 0, 0, 0, 0, 0, 0, 0, 0, 0, 0), 12, 7);
        beatIs(Flows.ring(60, 60), 1, 1);
        // The first FIRING with which it is so many: two of PART 1 give what PART 0 takes, a third thing spares the second of them.
        EvenFlow x = Flows.chain(2, 1);
        x.line(1, 1, 0, 2);
        x.first(1, 2);
        beatIs(x, 3, 1);
        x.first(1, 3);
        beatIs(x, 2, 1);
        // 2 FIRINGS of PART 0, 3 of PART 1: with each thing more PART 0 waits for one FIRING fewer.
        EvenFlow y = Flows.chain(3, 2);
        y.line(1, 2, 0, 3);
        y.first(1, 4);
        beatIs(y, 5, 1);
        y.first(1, 5);
        beatIs(y, 4, 1);
        y.first(1, 6);
        beatIs(y, 3, 1);
        // A PART that gives nothing, nothing, 6 things: whoever needs one waits for its last PHASE.
        EvenFlow late = Flows.one(PHASED, 0, 3);
        late.part(FIXED, 0, 0);
        late.line(0, 2, 1, 6);
        late.count(0, false, 0, 0);
        late.count(0, false, 1, 0);
        late.count(0, false, 2, 6);
        late.line(1, 6, 0, 2);
        late.count(1, true, 0, 6);
        late.count(1, true, 1, 0);
        late.count(1, true, 2, 0);
        late.first(1, 6);
        late.time(1, 9);
        beatIs(late, 9 + 3, 1);
        late.count(0, false, 0, 6);
        late.count(0, false, 2, 0);
        beatIs(late, 9 + 1, 1);
        // 6 things more: a ROUND more to wait.
        late.first(0, 6);
        beatIs(late, 9, 1);
        late.first(0, 0);
        late.count(0, false, 0, 0);
        late.count(0, false, 1, 6);
        beatIs(late, 9 + 2, 1);
        late.first(1, 12);
        beatIs(late, 9, 1);
    }

    private static void waitsIfItTakes() {
        due.says(0, "(if it takes any)");
        // PART 0 takes 2 things of PART 1 in PHASE 0 and none in PHASE 1; PART 1 takes what PHASE 0 gives.
        EvenFlow x = Flows.one(PHASED, 0, 2);
        x.part(FIXED, 0, 0);
        x.line(0, 2, 1, 2);
        x.line(1, 2, 0, 2);
        x.count(0, false, 1, 0);
        x.count(1, true, 1, 0);
        x.first(1, 2);
        x.time(0, 3);
        x.time(1, 10);
        // PHASE 0 and PART 1 wait for one another; PHASE 1 does not wait for PART 1.
        beatIs(x, 13, 1);
        x.count(1, true, 0, 0);
        x.count(1, true, 1, 2);
        x.first(1, 0);
        beatIs(x, 16, 1);
        // A LINE of which no FIRING takes any: nothing waits on it.
        EvenFlow y = Flows.one(PHASED, 0, 1);
        y.part(PHASED, 0, 1);
        y.line(0, 1, 1, 1);
        y.first(0, 1);
        y.line(1, 1, 0, 1);
        beatIs(y, 2, 1);
        y.count(1, false, 0, 0);
        y.count(1, true, 0, 0);
        beatIs(y, 1, 1);
        y.time(1, 8);
        beatIs(y, 8, 1);
    }

    private static void lowestTerms() {
        due.says(0, "A RING of such waits has a sum of TIMES, and goes back so many ROUNDS. THE BEAT is the greatest sum by ROUNDS, as a fraction in lowest terms.");
        beatIs(Flows.ring(2, 0, 0, 2, 0, 0), 3, 2);
        beatIs(Flows.ring(8, 0, 0, 0, 0, 0, 0, 0, 0, 0, 0, 0), 3, 2);
        EvenFlow x = Flows.ring(1, 1, 0);
        x.time(0, 1000);
        x.time(1, 999);
        x.time(2, 1000);
        beatIs(x, 2999, 2);
        x.time(1, 1000);
        beatIs(x, 1500, 1);
        // Of two rings the slower one.
        EvenFlow y = Flows.ring(1, 1, 0);
        y.line(0, 1, 2, 1);
        y.line(2, 1, 1, 1);
        y.first(3, 1);
        y.first(4, 1);
        beatIs(y, 2, 1);
        EvenFlow nought = Flows.ring(1, 0);
        nought.time(0, 0);
        nought.time(1, 0);
        beatIs(nought, 0, 1);
    }
}
