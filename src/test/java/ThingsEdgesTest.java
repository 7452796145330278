/** The edges that promises 30 to 44 name, sentence by sentence. */
public final class ThingsEdgesTest {
    private static final int BAD = EvenFlow.BAD, FINDING = EvenFlow.FINDING, STATE = EvenFlow.STATE, NONE = EvenFlow.NONE;
    private static final int NOTHING = 1, BEYOND = 2, CAST = 3, NOUGHT = 4, SIZE = 5;
    private static final int FIXED = 0, KEEPER = 2, SHARE = 3, PHASED = 4, DELAY = 5;
    private static final int LEAST = Integer.MIN_VALUE, MOST = Integer.MAX_VALUE;
    private static final Due due = new Due();

    public static void main(String[] args) {
        may();
        fire();
        fireFiveThousand();
        fireFourHundred();
        fireOwnLine();
        fireInOrder();
        traceAheadOfWork();
        gave();
        trace();
        deal();
        dealBeginsAnew();
        go();
        goAsFire();
        threadsBeginAnew();
        reset();
        things();
        look();
        given();
        asked();
        many();
        finding();
        findings();
        digest();
        digestParts();
        due.end();
    }

    private static void may() {
        due.says(30, "Whether a PART MAY FIRE: 1, 0. BAD.");
        EvenFlow x = new EvenFlow();
        due.is(x.may(0), BAD);
        x.part(FIXED, 0, 0);
        x.part(PHASED, 0, 2);
        x.line(0, 1, 1, 50);
        x.count(0, true, 1, 0);
        due.is(x.may(2), BAD);
        due.is(x.may(-1), BAD);
        due.is(x.may(LEAST), BAD);
        due.is(x.may(MOST), BAD);
        due.is(x.may(0), 1);
        x.first(0, 49);
        due.is(x.may(1), 0);
        x.fire(0);
        due.is(x.may(1), 1);
        x.fire(1);
        // The PHASE takes none now.
        due.is(x.things(0), 0);
        due.is(x.may(1), 1);
        x.fire(1);
        due.is(x.may(1), 0);
        // Whether a WORK will meet a FINDING, or a LINE be full, is not asked.
        EvenFlow y = Flows.one(SHARE, 0, 0);
        y.part(DELAY, 0, 0);
        y.tear(1);
        due.is(y.may(0), 1);
        due.is(y.may(1), 1);
        EvenFlow full = Flows.chain(50, 1);
        for (int i = 0; i < 9; i++) {
            full.fire(0);
        }
        due.is(full.fire(0), STATE);
        due.is(full.may(0), 1);
        // Nor the FIRINGS of a ROUND: it goes on and on.
        due.is(Flows.uneven().may(0), 1);
        EvenFlow asked = Flows.parts(1);
        asked.may(0);
        due.is(asked.many(2), 0);
    }

    private static void fire() {
        due.says(31, "A PART fires: 1. BAD;");
        EvenFlow x = new EvenFlow();
        due.is(x.fire(0), BAD);
        x.part(FIXED, 10, 0);
        x.part(FIXED, 0, 0);
        x.line(0, 2, 1, 3);
        due.is(x.fire(2), BAD);
        due.is(x.fire(-1), BAD);
        due.is(x.fire(LEAST), BAD);
        due.is(x.fire(MOST), BAD);
        due.is(x.fire(0), 1);
        due.is(x.fire(0), 1);
        due.is(x.fire(1), 1);
        due.is(x.gave(), 10 + 11 + 10);
        due.is(x.things(0), 1);
        due.is(x.many(2), 3);
        due.says(31, "0: it may not;");
        due.is(x.fire(1), 0);
        due.is(x.many(2), 3);
        due.is(x.gave(), 31);
        due.is(x.things(0), 1);
        // A graph without a ROUND can fire, too.
        EvenFlow uneven = Flows.uneven();
        due.is(uneven.fire(0), 1);
        due.is(uneven.fire(1), 0);
        due.is(Flows.spent().fire(0), 1);
    }

    /** More calls than an object is promised to answer; but it tells the sentence. */
    private static void fireFiveThousand() {
        due.says(31, "STATE: 5000 FIRINGS were;");
        EvenFlow x = Flows.one(KEEPER, 1, 0);
        x.part(FIXED, 0, 0);
        x.line(0, 1, 1, 2);
        x.part(SHARE, 0, 0);
        x.part(FIXED, 0, 0);
        x.schedule(0);
        for (int i = 0; i < 1666; i++) {
            x.fire(0);
            x.fire(0);
            x.fire(1);
        }
        due.is(x.many(2), 4998);
        due.is(x.fire(3), 1);
        due.is(x.fire(1), 0);
        due.is(x.fire(2), FINDING);
        due.is(x.fire(0), 1);
        due.is(x.gave(), 3333);
        due.is(x.many(2), 5000);
        due.is(x.fire(0), STATE);
        // Ahead of what PART 1 lacks, and of a FINDING; behind BAD.
        due.is(x.may(1), 0);
        due.is(x.fire(1), STATE);
        due.is(x.fire(2), STATE);
        due.is(x.fire(4), BAD);
        due.is(x.findings(NOUGHT), 1);
        due.is(x.go(0), STATE);
        due.is(x.gave(), 3333);
        due.is(x.many(2), 5000);
        due.is(x.reset(), 5000);
        due.is(x.fire(1), 0);
        due.is(x.fire(0), 1);
        due.is(x.gave(), 1);
    }

    private static void fireFourHundred() {
        due.says(31, "STATE: a LINE would have more than 400 things behind it;");
        EvenFlow x = Flows.chain(50, 1);
        for (int i = 1; i <= 8; i++) {
            due.is(x.fire(0), 1);
            due.is(x.things(0), 50 * i);
        }
        due.is(x.fire(0), STATE);
        due.is(x.things(0), 400);
        due.is(x.many(2), 8);
        for (int i = 0; i < 49; i++) {
            x.fire(1);
        }
        due.is(x.fire(0), STATE);
        due.is(x.things(0), 351);
        due.is(x.fire(1), 1);
        due.is(x.fire(0), 1);
        due.is(x.things(0), 400);
        due.is(x.look(0, 399), 1);
        due.is(x.asked(), 49);
        due.is(x.look(0, 400), FINDING);
        // 401 things are too many; any LINE from the PART can be the one.
        EvenFlow y = Flows.parts(2);
        y.line(0, 1, 1, 1);
        y.line(0, 49, 1, 1);
        y.first(1, 8);
        for (int i = 0; i < 8; i++) {
            due.is(y.fire(0), 1);
        }
        due.is(y.things(1), 400);
        due.is(y.fire(0), STATE);
        due.is(y.things(0), 8);
        y.first(1, 9);
        for (int i = 0; i < 7; i++) {
            due.is(y.fire(0), 1);
        }
        due.is(y.things(1), 352);
        due.is(y.fire(0), STATE);
        due.is(y.things(0), 7);
    }

    private static void fireOwnLine() {
        due.says(31, "a LINE would have more than 400 things behind it;");
        // What the FIRING takes of the LINE is gone behind it.
        EvenFlow x = Flows.parts(1);
        x.line(0, 50, 0, 2);
        x.first(0, 16);
        for (int i = 1; i <= 8; i++) {
            due.is(x.fire(0), 1);
            due.is(x.things(0), 16 + 48 * i);
        }
        due.is(x.things(0), 400);
        due.is(x.fire(0), STATE);
        due.is(x.things(0), 400);
        EvenFlow y = Flows.one(PHASED, 0, 2);
        y.line(0, 50, 0, 10);
        y.count(0, true, 1, 50);
        y.count(0, false, 1, 50);
        y.first(0, 40);
        for (int i = 0; i < 18; i++) {
            due.is(y.fire(0), 1);
        }
        due.is(y.things(0), 400);
        due.is(y.fire(0), STATE);
    }

    /** A PART of a KIND whose LINE to another is as full as it can be; it lacks nothing. */
    private static EvenFlow fullOf(int kind) {
        EvenFlow x = Flows.one(kind, 1, 0);
        x.part(FIXED, 0, 0);
        x.line(0, 50, 1, 1);
        x.line(1, 1, 0, 1);
        x.first(1, 60);
        for (int i = 0; i < 60; i++) {
            x.thing(1, i, i < 8 ? 1 : 0);
        }
        for (int i = 0; i < 8; i++) {
            x.fire(0);
        }
        return x;
    }

    private static void fireInOrder() {
        due.says(31, "FINDING. (In this order.");
        // Full ahead of what THE WORK would meet: the next thing is 0.
        EvenFlow x = fullOf(SHARE);
        due.is(x.things(0), 400);
        due.is(x.fire(0), STATE);
        due.is(x.findings(NOUGHT), 0);
        for (int i = 0; i < 50; i++) {
            x.fire(1);
        }
        due.is(x.fire(0), FINDING);
        due.is(x.finding(), NOUGHT);
        due.is(x.things(0), 350);
        // It may not, ahead of full.
        EvenFlow y = fullOf(FIXED);
        due.is(y.fire(0), STATE);
        y.line(1, 1, 0, 1);
        y.first(2, 8);
        for (int i = 0; i < 8; i++) {
            due.is(y.fire(0), 1);
        }
        due.is(y.things(0), 400);
        due.is(y.fire(0), 0);
        // It may not, ahead of a FINDING.
        EvenFlow z = Flows.one(DELAY, 0, 0);
        z.line(0, 1, 0, 1);
        z.tear(0);
        due.is(z.fire(0), 0);
        due.is(z.findings(NOTHING), 0);
        z.first(0, 1);
        due.is(z.fire(0), FINDING);
        due.is(z.finding(), NOTHING);
        due.is(z.fire(1), BAD);
    }

    private static void traceAheadOfWork() {
        due.says(31, "THE TRACE is empty ahead of THE WORK.)");
        EvenFlow x = Flows.one(KEEPER, 1, 0);
        x.part(DELAY, 0, 0);
        x.part(FIXED, 0, 0);
        x.line(0, 1, 2, 2);
        x.tear(1);
        x.fire(0);
        due.are(Flows.trace(x, 4), 3, 2, 1, NONE);
        // Where no WORK begins it stays.
        due.is(x.fire(2), 0);
        due.is(x.fire(3), BAD);
        due.are(Flows.trace(x, 4), 3, 2, 1, NONE);
        due.is(x.fire(1), FINDING);
        due.are(Flows.trace(x, 4), 6, NONE, NONE, NONE);
        x.fire(0);
        x.fire(2);
        due.are(Flows.trace(x, 4), 1, NONE, NONE, NONE);
        EvenFlow full = fullOf(KEEPER);
        full.fire(1);
        due.is(full.fire(0), STATE);
        due.are(Flows.trace(full, 2), 1, NONE);
    }

    private static void gave() {
        due.says(32, "What THE WORK of the latest FIRING gave; 0 before.");
        EvenFlow x = Flows.one(FIXED, Long.MIN_VALUE, 0);
        x.part(SHARE, 1, 0);
        x.part(FIXED, 7, 0);
        x.line(0, 1, 2, 2);
        due.is(x.gave(), 0);
        due.is(x.fire(1), FINDING);
        due.is(x.fire(2), 0);
        due.is(x.gave(), 0);
        due.is(x.fire(0), 1);
        due.is(x.gave(), Long.MIN_VALUE);
        // What is no FIRING gives nothing.
        due.is(x.fire(1), FINDING);
        due.is(x.fire(2), 0);
        due.is(x.fire(3), BAD);
        due.is(x.gave(), Long.MIN_VALUE);
        due.is(x.fire(0), 1);
        due.is(x.fire(2), 1);
        due.is(x.gave(), 7);
        // A PART that no LINE leads from gives it nowhere, but gives it; go() fires, too.
        x.deal(0, 1);
        x.schedule(0);
        due.is(x.go(1), 0);
        due.is(x.gave(), Long.MIN_VALUE);
    }

    private static void trace() {
        due.says(33, "Number i of THE TRACE; NONE.");
        EvenFlow x = Flows.one(KEEPER, 1, 0);
        due.is(x.trace(0), NONE);
        x.fire(0);
        due.are(Flows.trace(x, 4), 3, 2, 1, NONE);
        due.is(x.trace(-1), NONE);
        due.is(x.trace(LEAST), NONE);
        due.is(x.trace(MOST), NONE);
    }

    private static void deal() {
        due.says(34, "A PART is dealt to a THREAD (0 .. 3): in which it was. BAD.");
        EvenFlow x = new EvenFlow();
        due.is(x.deal(0, 0), BAD);
        x.part(FIXED, 0, 0);
        x.part(FIXED, 0, 0);
        due.is(x.deal(2, 0), BAD);
        due.is(x.deal(-1, 0), BAD);
        due.is(x.deal(0, -1), BAD);
        due.is(x.deal(0, 4), BAD);
        due.is(x.deal(0, LEAST), BAD);
        due.is(x.deal(0, MOST), BAD);
        due.is(x.told(0, 3), 0);
        int was = 0;
        for (int thread = 3; thread >= 0; thread--) {
            due.is(x.deal(0, thread), was);
            due.is(x.told(0, 3), thread);
            due.is(x.told(1, 3), 0);
            was = thread;
        }
        due.is(x.deal(0, 0), 0);
    }

    /** 0 gives 1, 1 takes 2, 2 is alone: FIRINGS 0 0 1 2, of which THREAD 1 has PART 1. */
    private static EvenFlow threaded() {
        EvenFlow x = Flows.chain(1, 2);
        x.part(FIXED, 0, 0);
        x.deal(1, 1);
        x.schedule(0);
        return x;
    }

    private static void dealBeginsAnew() {
        due.says(34, "All THREADS begin anew.");
        EvenFlow x = threaded();
        due.are(Flows.goes(x, 0, 0), 0, 0);
        due.is(x.deal(1, 1), 1);
        due.are(Flows.goes(x, 0, 0, 0), 0, 0, 2);
        due.are(Flows.goes(x, 0, 0), 0, 0);
        due.is(x.deal(2, 3), 0);
        due.are(Flows.goes(x, 0, 0, 0), 0, 0, 0);
        // One that is refused does not begin anew.
        EvenFlow y = threaded();
        due.are(Flows.goes(y, 0, 0), 0, 0);
        y.deal(2, 4);
        y.deal(3, 0);
        due.are(Flows.goes(y, 0, 0), 2, 0);
    }

    private static void go() {
        due.says(35, "A THREAD does its next FIRING: its PART; NONE: it waits (it may not fire).");
        EvenFlow x = threaded();
        due.are(Flows.goes(x, 1, 0, 1, 0, 1, 1, 0, 0, 0, 1, 0), NONE, 0, NONE, 0, 1, NONE, 2, 0, 0, 1, 2);
        due.is(x.many(2), 8);
        // It waits for its next FIRING, even if another of its PARTS might fire.
        EvenFlow y = threaded();
        y.deal(2, 1);
        due.are(Flows.goes(y, 1, 0, 0, 1, 1), NONE, 0, 0, 1, 2);
        due.says(35, "BAD; STATE: no SCHEDULE, it has no PART; else as fire().");
        EvenFlow z = Flows.parts(1);
        due.is(z.go(-1), BAD);
        due.is(z.go(4), BAD);
        due.is(z.go(LEAST), BAD);
        due.is(z.go(MOST), BAD);
        due.is(z.go(0), STATE);
        z.schedule(0);
        due.is(z.go(4), BAD);
        due.is(z.go(0), 0);
        due.is(z.go(1), STATE);
        due.is(z.go(3), STATE);
        z.deal(0, 3);
        due.is(z.go(0), STATE);
        due.is(z.go(3), 0);
        z.first(0, 0);
        z.part(FIXED, 0, 0);
        due.is(z.go(3), STATE);
        due.is(new EvenFlow().go(0), STATE);
        due.is(new EvenFlow().go(4), BAD);
    }

    private static void goAsFire() {
        due.says(35, "else as fire().");
        EvenFlow x = Flows.one(SHARE, 1, 0);
        x.part(KEEPER, 1, 0);
        x.deal(1, 1);
        x.schedule(0);
        due.is(x.go(1), 1);
        due.are(Flows.trace(x, 4), 3, 2, 1, NONE);
        due.is(x.go(1), 1);
        due.are(Flows.trace(x, 4), 3, 2, 1, NONE);
        due.is(x.gave(), 2);
        due.is(x.go(0), FINDING);
        due.is(x.finding(), NOUGHT);
        due.is(x.findings(NOUGHT), 1);
        due.are(Flows.trace(x, 4), 4, 2, 1, NONE);
        due.is(x.many(2), 2);
        due.is(x.gave(), 2);
        // That FIRING was none: it is still the next one.
        due.is(x.go(0), FINDING);
        due.is(x.findings(NOUGHT), 2);
        EvenFlow full = Flows.chain(50, 50);
        full.deal(1, 1);
        full.schedule(0);
        for (int i = 0; i < 8; i++) {
            due.is(full.go(0), 0);
        }
        due.is(full.go(0), STATE);
        due.is(full.many(2), 8);
        due.is(full.go(1), 1);
        due.is(full.go(0), 0);
        due.is(full.go(0), STATE);
    }

    private static void threadsBeginAnew() {
        due.says(35, "(THREADS begin anew with a new SCHEDULE, deal(), and when THE STATE is put to THE FIRST MARKING.)");
        for (int call = 0; call < 9; call++) {
            EvenFlow x = Flows.chain(1, 2);
            x.part(DELAY, 0, 1);
            x.first(0, 2);
            x.schedule(0);
            due.are(Flows.goes(x, 0, 0, 0), 0, 0, 1);
            switch (call) {
                case 0:
                    x.schedule(0);
                    break;
                case 1:
                    x.least(20000);
                    break;
                case 2:
                    x.once();
                    break;
                case 3:
                    Flows.checked(x, 0, 0, 1, 2);
                    break;
                case 4:
                    x.deal(0, 0);
                    break;
                case 5:
                    x.reset();
                    break;
                case 6:
                    x.thing(0, 0, 0);
                    break;
                case 7:
                    x.row(2, 0, 0);
                    break;
                default:
                    x.copy(2, 0, 2, 0, 1);
                    break;
            }
            due.is(x.go(0), x.firing(0));
            due.is(x.go(0), x.firing(1));
        }
        EvenFlow torn = Flows.parts(2);
        torn.part(DELAY, 0, 1);
        torn.schedule(0);
        due.is(torn.go(0), 0);
        torn.tear(2);
        due.is(torn.go(0), 0);
        // All of them, and at other calls none.
        EvenFlow all = threaded();
        all.deal(2, 2);
        due.are(Flows.goes(all, 0, 0, 1, 2, 0), 0, 0, 1, 2, 0);
        all.schedule(3);
        all.least(0);
        Flows.checked(all, 1);
        all.time(0, 2);
        all.fire(2);
        all.go(3);
        all.round();
        all.stuck();
        all.lacks(0);
        all.digest();
        all.beat(false);
        due.are(Flows.goes(all, 1, 0, 1, 2), NONE, 0, 1, 2);
    }

    private static void reset() {
        due.says(36, "THE STATE is THE FIRST MARKING: how many FIRINGS were.");
        EvenFlow x = new EvenFlow();
        due.is(x.reset(), 0);
        x.part(KEEPER, 1, 0);
        x.part(DELAY, 0, 2);
        x.part(PHASED, 0, 2);
        x.line(0, 1, 1, 1);
        x.first(0, 2);
        x.thing(0, 1, 9);
        x.row(1, 1, 8);
        x.schedule(0);
        long before = x.digest();
        for (int p : new int[] {0, 1, 2, 1, 0, 1}) {
            due.is(x.fire(p), 1);
        }
        due.is(x.go(0), 0);
        due.is(x.reset(), 7);
        due.is(x.digest(), before);
        due.is(x.many(2), 0);
        due.are(Flows.things(x, 0), 0, 9);
        due.is(x.given(0, 0), NONE);
        due.are(Flows.gives(x, 1, 2), 0, 8);
        due.are(Flows.gives(x, 2, 1), 0);
        due.are(Flows.gives(x, 0, 1), 1);
        due.is(x.reset(), 4);
        due.is(x.reset(), 0);
        due.is(x.many(3), 4);
    }

    private static void things() {
        due.says(37, "How many things are on a LINE. BAD.");
        EvenFlow x = Flows.parts(1);
        due.is(x.things(0), BAD);
        x.line(0, 5, 0, 2);
        due.is(x.things(1), BAD);
        due.is(x.things(-1), BAD);
        due.is(x.things(MOST), BAD);
        due.is(x.things(0), 0);
        x.first(0, 60);
        due.is(x.things(0), 60);
        x.fire(0);
        due.is(x.things(0), 63);
        x.reset();
        due.is(x.things(0), 60);
    }

    private static void look() {
        due.says(38, "Thing i on a LINE, the first to be taken 0, told by asked(): 1. BAD: the LINE; BEYOND.");
        EvenFlow x = Flows.one(FIXED, 50, 0);
        x.line(0, 2, 0, 1);
        due.is(x.look(1, 0), BAD);
        due.is(x.look(-1, 0), BAD);
        due.is(x.finding(), 0);
        due.is(x.look(0, 0), FINDING);
        due.is(x.finding(), BEYOND);
        x.first(0, 2);
        x.thing(0, 0, 7);
        x.thing(0, 1, 8);
        due.is(x.look(0, 2), FINDING);
        due.is(x.look(0, -1), FINDING);
        due.is(x.look(0, MOST), FINDING);
        due.is(x.look(0, LEAST), FINDING);
        due.is(x.findings(BEYOND), 5);
        due.is(x.look(0, 1), 1);
        due.is(x.asked(), 8);
        due.is(x.look(0, 0), 1);
        due.is(x.asked(), 7);
        x.fire(0);
        due.are(Flows.things(x, 0), 8, 57, 58);
        due.is(x.look(0, 3), FINDING);
        due.is(x.asked(), 58);
        due.is(x.things(0), 3);
    }

    private static void given() {
        due.says(39, "Thing i that was ever given to a LINE since THE FIRST MARKING (FIRST THINGS aside), told by asked(): 1; NONE: it was not yet. BAD: the LINE, i not 0 .. 199.");
        EvenFlow x = Flows.fed(FIXED, 0, 0, 3, 50);
        due.is(x.given(1, 0), BAD);
        due.is(x.given(-1, 0), BAD);
        due.is(x.given(0, -1), BAD);
        due.is(x.given(0, 200), BAD);
        due.is(x.given(0, LEAST), BAD);
        due.is(x.given(0, MOST), BAD);
        x.first(0, 1);
        x.thing(0, 0, 99);
        due.is(x.given(0, 0), NONE);
        due.is(x.given(0, 199), NONE);
        x.fire(0);
        due.is(x.given(0, 0), 1);
        due.is(x.asked(), 3);
        due.is(x.given(0, 49), 1);
        due.is(x.asked(), 52);
        due.is(x.given(0, 50), NONE);
        due.is(x.asked(), 52);
        // What was taken was given all the same.
        x.fire(1);
        due.is(x.things(0), 1);
        due.is(x.given(0, 1), 1);
        due.is(x.asked(), 4);
        for (int i = 0; i < 2; i++) {
            x.fire(0);
        }
        due.is(x.given(0, 149), 1);
        due.is(x.given(0, 150), NONE);
        x.fire(0);
        due.is(x.given(0, 199), 1);
        due.is(x.asked(), 52);
        x.fire(0);
        due.is(x.given(0, 199), 1);
        due.is(x.given(0, 200), BAD);
        due.is(x.finding(), 0);
        x.reset();
        due.is(x.given(0, 0), NONE);
        // 200 given one by one: none is lost at the end.
        EvenFlow y = Flows.one(KEEPER, 1, 0);
        y.part(FIXED, 0, 0);
        y.line(0, 1, 1, 1);
        for (int i = 0; i < 202; i++) {
            y.fire(0);
        }
        due.is(y.given(0, 199), 1);
        due.is(y.asked(), 200);
        due.is(y.given(0, 198), 1);
        due.is(y.asked(), 199);
    }

    private static void asked() {
        due.says(40, "What the latest look(), given() that answered 1 told; 0 before.");
        EvenFlow x = Flows.one(FIXED, 5, 0);
        due.is(x.asked(), 0);
        x.line(0, 1, 0, 1);
        x.first(0, 1);
        x.thing(0, 0, Long.MAX_VALUE);
        due.is(x.look(0, 1), FINDING);
        due.is(x.look(1, 0), BAD);
        due.is(x.given(0, 0), NONE);
        due.is(x.asked(), 0);
        due.is(x.look(0, 0), 1);
        due.is(x.asked(), Long.MAX_VALUE);
        x.fire(0);
        due.is(x.look(0, 1), FINDING);
        due.is(x.look(0, -1), FINDING);
        due.is(x.look(1, 0), BAD);
        due.is(x.given(0, 1), NONE);
        due.is(x.given(0, 200), BAD);
        due.is(x.asked(), Long.MAX_VALUE);
        due.is(x.given(0, 0), 1);
        due.is(x.asked(), Long.MIN_VALUE + 4);
        due.is(x.asked(), Long.MIN_VALUE + 4);
    }

    private static void many() {
        due.says(41, "0 PARTS, 1 LINES, 2 FIRINGS since THE FIRST MARKING, 3 FIRINGS of the latest SCHEDULE (NONE: none), 4 PARTS in THE DRAFT. BAD.");
        EvenFlow x = new EvenFlow();
        long[] all = new long[7];
        for (int what = -1; what <= 5; what++) {
            all[what + 1] = x.many(what);
        }
        due.are(all, BAD, 0, 0, 0, NONE, 0, BAD);
        due.is(x.many(LEAST), BAD);
        due.is(x.many(MOST), BAD);
        x.part(FIXED, 0, 0);
        x.part(FIXED, 0, 0);
        x.line(0, 1, 1, 3);
        x.schedule(0);
        x.fire(0);
        x.fire(0);
        x.draft(1);
        x.draft(1);
        x.draft(1);
        for (int what = -1; what <= 5; what++) {
            all[what + 1] = x.many(what);
        }
        due.are(all, BAD, 2, 1, 2, 4, 3, BAD);
        x.reset();
        due.is(x.many(2), 0);
        x.check();
        due.is(x.many(4), 0);
        x.first(0, 0);
        due.is(x.many(3), NONE);
    }

    private static void finding() {
        due.says(42, "The latest FINDING (0 before any).");
        EvenFlow x = Flows.one(DELAY, 0, 1);
        due.is(x.finding(), 0);
        // What is refused otherwise is none, nor is NONE.
        x.part(6, 0, 0);
        x.fire(1);
        x.line(0, 1, 0, 0);
        x.schedule(3);
        x.bracket(0);
        x.go(0);
        due.is(x.finding(), 0);
        x.row(0, 1, 1);
        due.is(x.finding(), BEYOND);
        x.fire(0);
        x.fire(1);
        x.row(0, 0, 1);
        due.is(x.finding(), BEYOND);
        x.part(DELAY, 0, -1);
        due.is(x.finding(), SIZE);
        x.part(SHARE, 0, 0);
        x.fire(1);
        due.is(x.finding(), NOUGHT);
        x.tear(1);
        due.is(x.finding(), CAST);
        x.tear(0);
        due.is(x.finding(), CAST);
        x.tear(0);
        due.is(x.finding(), NOTHING);
        x.reset();
        x.part(FIXED, 0, 0);
        due.is(x.finding(), NOTHING);
        due.is(x.finding(), NOTHING);
    }

    private static void findings() {
        due.says(43, "How often a FINDING (1 .. 5) was answered. BAD.");
        EvenFlow x = new EvenFlow();
        due.is(x.findings(0), BAD);
        due.is(x.findings(-1), BAD);
        due.is(x.findings(6), BAD);
        due.is(x.findings(LEAST), BAD);
        due.is(x.findings(MOST), BAD);
        for (int f = 1; f <= 5; f++) {
            due.is(x.findings(f), 0);
        }
        x.part(DELAY, 0, 0);
        x.part(SHARE, 0, 0);
        x.part(PHASED, 0, 1);
        for (int i = 0; i < 5; i++) {
            x.part(DELAY, 0, -1);
        }
        for (int i = 0; i < 4; i++) {
            x.fire(1);
        }
        x.once();
        x.tear(1);
        x.row(2, 0, 0);
        x.row(0, 0, 0);
        x.copy(0, 0, 0, 0, 1);
        x.tear(0);
        x.tear(0);
        long[] all = new long[5];
        for (int f = 1; f <= 5; f++) {
            all[f - 1] = x.findings(f);
        }
        due.are(all, 1, 2, 3, 4, 5);
        x.reset();
        x.part(FIXED, 0, 0);
        due.is(x.findings(SIZE), 5);
    }

    private static long hash(long... values) {
        long h = 17;
        for (long v : values) {
            h = 31 * h + v;
        }
        return h;
    }

    private static void digest() {
        due.says(44, "h = 17; then h = 31 h + v for each v:");
        due.is(new EvenFlow().digest(), 17);
        EvenFlow x = Flows.parts(1);
        due.is(x.digest(), hash(0, 1, 1, 0, NONE, 0, 0));
        x.schedule(0);
        due.is(x.digest(), hash(0, 1, 1, 0, NONE, 0, 0, 0));
        due.is(x.digest(), x.digest());
        // A call that only asks changes nothing of it.
        x.round();
        x.stuck();
        x.beat(true);
        x.draft(0);
        due.is(x.digest(), hash(0, 1, 1, 0, NONE, 0, 0, 0));
        x.first(0, 0);
        x.line(0, 1, 0, 1);
        due.is(x.digest(), hash(0, 1, 1, 0, NONE, 0, 0, 0, 0, 1, 1, 0, 0));
    }

    private static void digestParts() {
        due.says(44, "of each PART told() 0 to 4, its PHASE, what it keeps (0 of others), its ROW as it is; of each LINE ends() 0 to 4, how many things are on it, and these; of the latest SCHEDULE its FIRINGS.");
        EvenFlow x = Flows.one(KEEPER, 3, 0);
        x.part(PHASED, 0, 2);
        x.part(DELAY, 6, 2);
        x.row(2, 0, Long.MIN_VALUE);
        x.row(2, 1, 4);
        x.line(0, 1, 0, 1);
        x.first(0, 2);
        x.thing(0, 1, Long.MAX_VALUE);
        due.is(x.digest(), hash(2, 1, 1, 0, NONE, 0, 0, 4, 2, 1, 0, NONE, 0, 0, 5, 1, 1, 0, 2, 0, 0, Long.MIN_VALUE, 4,
            0, 0, 1, 1, 2, 2, 0, Long.MAX_VALUE));
        for (int p = 0; p < 3; p++) {
            x.fire(p);
        }
        // As it is, not as it was told.
        due.is(x.digest(), hash(2, 1, 1, 0, NONE, 0, 9, 4, 2, 1, 0, NONE, 1, 0, 5, 1, 1, 0, 2, 0, 0, 4, 6,
            0, 0, 1, 1, 2, 2, Long.MAX_VALUE, 9));
        x.time(0, 1000);
        x.deal(1, 3);
        x.schedule(2);
        due.is(x.digest(), hash(2, 1, 1000, 0, NONE, 0, 9, 4, 2, 1, 3, NONE, 1, 0, 5, 1, 1, 0, 2, 0, 0, 4, 6,
            0, 0, 1, 1, 2, 2, Long.MAX_VALUE, 9, 0, 1, 2, 1));
        // Without a ROW there is none of it; K is not told, nor what was ever given.
        x.tear(2);
        due.is(x.digest(), hash(2, 1, 1000, 0, NONE, 0, 0, 4, 2, 1, 3, NONE, 0, 0, 5, 1, 1, 0, NONE, 0, 0,
            0, 0, 1, 1, 2, 2, 0, Long.MAX_VALUE, 0, 1, 2, 1));
        due.is(Flows.one(FIXED, 1, 0).digest(), Flows.one(FIXED, 2, 0).digest());
    }
}
