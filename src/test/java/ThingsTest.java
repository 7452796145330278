/** Promises 30 to 44. */
public final class ThingsTest {
    private static final int BAD = EvenFlow.BAD, FINDING = EvenFlow.FINDING, STATE = EvenFlow.STATE, NONE = EvenFlow.NONE;
    private static final int NOTHING = 1, BEYOND = 2, CAST = 3, NOUGHT = 4, SIZE = 5;
    private static final int FIXED = 0, SCALED = 1, KEEPER = 2, SHARE = 3, PHASED = 4, DELAY = 5;
    private static final Due due = new Due();

    public static void main(String[] args) {
        may();
        fire();
        fullLines();
        works();
        share();
        delay();
        gave();
        trace();
        deal();
        go();
        threadsBeginAnew();
        goRefused();
        sameInEveryOrder();
        reset();
        things();
        look();
        given();
        asked();
        many();
        finding();
        findings();
        digest();
        due.end();
    }

    private static void may() {
        due.promise(30);
        EvenFlow x = new EvenFlow();
        due.is(x.may(0), BAD);
        x.part(FIXED, 0, 0);
        x.part(PHASED, 0, 2);
        x.line(0, 1, 1, 2);
        x.line(0, 1, 1, 1);
        x.count(0, true, 1, 0);
        x.count(1, true, 1, 0);
        due.is(x.may(2), BAD);
        due.is(x.may(-1), BAD);
        due.is(x.may(0), 1);
        due.is(x.may(1), 0);
        x.fire(0);
        due.is(x.may(1), 0);
        x.fire(0);
        due.is(x.may(1), 1);
        x.fire(1);
        due.is(x.may(1), 1);
        x.fire(1);
        due.is(x.may(1), 0);
    }

    private static void fire() {
        due.promise(31);
        EvenFlow x = new EvenFlow();
        due.is(x.fire(0), BAD);
        x.part(FIXED, 10, 0);
        x.part(FIXED, 0, 0);
        x.line(0, 2, 1, 3);
        x.line(0, 1, 1, 1);
        due.is(x.fire(2), BAD);
        due.is(x.fire(-1), BAD);
        due.is(x.fire(1), 0);
        due.is(x.many(2), 0);
        due.is(x.fire(0), 1);
        due.is(x.fire(1), 0);
        due.is(x.fire(0), 1);
        due.is(x.things(0), 4);
        due.is(x.things(1), 2);
        due.is(x.fire(1), 1);
        due.is(x.things(0), 1);
        due.is(x.things(1), 1);
        due.is(x.gave(), 10 + 11 + 10 + 10);
        due.is(x.many(2), 3);
        due.is(x.fire(1), 0);
        due.is(x.gave(), 41);
        due.is(x.trace(0), 1);
    }

    private static void fullLines() {
        due.promise(31);
        EvenFlow x = new EvenFlow();
        x.part(SHARE, 1, 0);
        x.part(FIXED, 0, 0);
        x.line(1, 50, 0, 1);
        x.line(0, 50, 0, 1);
        x.first(0, 60);
        x.first(1, 1);
        x.part(FIXED, 1, 0);
        x.line(2, 50, 1, 1);
        for (int i = 0; i < 8; i++) {
            due.is(x.fire(2), 1);
        }
        due.is(x.things(2), 400);
        due.is(x.fire(2), STATE);
        due.is(x.things(2), 400);
        due.is(x.many(2), 8);
        due.is(x.fire(1), 1);
        due.is(x.fire(2), STATE);
        // Full comes ahead of what the WORK would meet.
        for (int i = 0; i < 5; i++) {
            due.is(x.fire(1), 1);
        }
        due.is(x.things(0), 360);
        due.is(x.fire(1), STATE);
        due.is(x.fire(0), FINDING);
        due.is(x.finding(), NOUGHT);
        // On a PART's own LINE what it takes is gone ahead of what it gives.
        EvenFlow own = new EvenFlow();
        own.part(FIXED, 0, 0);
        own.line(0, 50, 0, 50);
        own.line(0, 48, 0, 1);
        own.first(0, 60);
        own.first(1, 24);
        for (int i = 0; i < 8; i++) {
            due.is(own.fire(0), 1);
        }
        due.is(own.things(1), 24 + 8 * 47);
        due.is(own.fire(0), STATE);
        due.is(own.things(0), 60);
        own.first(1, 23);
        for (int i = 0; i < 8; i++) {
            due.is(own.fire(0), 1);
        }
        due.is(own.things(1), 399);
        due.is(own.fire(0), STATE);
    }

    private static long workOf(EvenFlow x) {
        x.fire(0);
        x.fire(1);
        return x.gave();
    }

    private static void works() {
        due.promise(31);
        due.is(workOf(Flows.fed(FIXED, 100, 0, 7, 3)), 7 + 8 + 9 + 100);
        due.is(workOf(Flows.fed(SCALED, 10, 0, 7, 2)), 10 * (7 + 8 + 10));
        due.is(workOf(Flows.fed(FIXED, Long.MAX_VALUE, 0, 1, 1)), Long.MIN_VALUE);
        due.is(workOf(Flows.fed(FIXED, 0, 0, Long.MAX_VALUE, 2)), -1);
        EvenFlow keeper = Flows.fed(KEEPER, 2, 0, 5, 1);
        due.is(workOf(keeper), 14);
        due.is(workOf(keeper), 28);
        keeper.reset();
        due.is(workOf(keeper), 14);
        EvenFlow phased = Flows.fed(PHASED, 3, 2, 5, 1);
        due.is(workOf(phased), 8);
        due.is(workOf(phased), 9);
        due.is(workOf(phased), 8);
        // What it gives goes to each LINE from v on.
        EvenFlow x = new EvenFlow();
        x.part(FIXED, 40, 0);
        x.line(0, 2, 0, 1);
        x.line(0, 3, 0, 1);
        x.first(0, 1);
        x.first(1, 1);
        x.fire(0);
        for (int l = 0; l < 2; l++) {
            for (int i = 0; i < 2 + l; i++) {
                due.is(x.look(l, i), 1);
                due.is(x.asked(), 40 + i);
            }
        }
        due.is(x.fire(0), 1);
        due.is(x.gave(), 40 + 40 + 40);
    }

    private static void share() {
        due.promise(31);
        due.is(workOf(Flows.fed(SHARE, 10, 0, 3, 1)), 10 * 13 / 3);
        due.is(workOf(Flows.fed(SHARE, -10, 0, 3, 1)), 70 / 3);
        due.is(workOf(Flows.fed(SHARE, 5, 0, -7, 1)), -10 / -7);
        due.is(workOf(Flows.fed(SHARE, 2, 0, -9, 2)), 2 * (-9 - 8 + 2) / -9);
        due.is(workOf(Flows.fed(SHARE, Long.MIN_VALUE, 0, -1, 1)), Long.MIN_VALUE);
        EvenFlow zero = Flows.fed(SHARE, 1, 0, 0, 1);
        zero.fire(0);
        due.is(zero.fire(1), FINDING);
        due.is(zero.finding(), NOUGHT);
        due.is(zero.things(0), 1);
        due.is(zero.many(2), 1);
        EvenFlow none = new EvenFlow();
        none.part(SHARE, 1, 0);
        due.is(none.fire(0), FINDING);
        due.is(none.finding(), NOUGHT);
        // The first thing is that of the LINE with the least number, whatever was given first.
        EvenFlow two = new EvenFlow();
        two.part(SHARE, 1, 0);
        two.part(FIXED, 4, 0);
        two.part(FIXED, 20, 0);
        two.line(2, 1, 0, 1);
        two.line(1, 1, 0, 1);
        two.fire(1);
        two.fire(2);
        two.fire(0);
        due.is(two.gave(), 25 / 20);
    }

    private static void delay() {
        due.promise(31);
        EvenFlow x = Flows.fed(DELAY, 1, 2, 5, 1);
        x.row(1, 0, 77);
        due.is(workOf(x), 77);
        due.is(workOf(x), 0);
        due.is(workOf(x), 6);
        x.reset();
        due.is(workOf(x), 77);
        due.is(workOf(Flows.fed(DELAY, 1, 0, 5, 1)), 6);
        EvenFlow one = Flows.fed(DELAY, 1, 1, 5, 1);
        due.is(workOf(one), 0);
        due.is(workOf(one), 6);
        x.tear(1);
        x.fire(0);
        due.is(x.fire(1), FINDING);
        due.is(x.finding(), NOTHING);
        due.is(x.things(0), 1);
    }

    private static void gave() {
        due.promise(32);
        EvenFlow x = new EvenFlow();
        due.is(x.gave(), 0);
        x.part(FIXED, 6, 0);
        x.part(SHARE, 6, 0);
        due.is(x.gave(), 0);
        x.fire(0);
        due.is(x.gave(), 6);
        x.fire(1);
        due.is(x.gave(), 6);
        x.schedule(0);
        x.fire(7);
        x.reset();
        due.is(x.gave(), 6);
    }

    private static void trace() {
        due.promise(33);
        EvenFlow x = new EvenFlow();
        due.is(x.trace(0), NONE);
        long[][] want = {{1, NONE, NONE, NONE}, {2, 1, NONE, NONE}, {3, 2, 1, NONE}, {4, 2, 1, NONE}, {5, 1, NONE, NONE}, {6, 1, NONE, NONE}};
        for (int kind = 0; kind < 6; kind++) {
            x.part(kind, 1, 1);
        }
        x.line(0, 1, SHARE, 1);
        for (int kind = 0; kind < 6; kind++) {
            due.is(x.fire(kind), 1);
            due.are(Flows.trace(x, 4), want[kind]);
        }
        due.is(x.trace(-1), NONE);
        // What did not begin a WORK leaves it.
        due.is(x.fire(SHARE), 0);
        due.is(x.fire(9), BAD);
        x.reset();
        due.are(Flows.trace(x, 4), want[DELAY]);
        // What met a FINDING wrote it anew.
        x.thing(0, 0, 0);
        x.first(0, 1);
        due.is(x.fire(SHARE), FINDING);
        due.are(Flows.trace(x, 4), 4, 2, 1, NONE);
        x.tear(DELAY);
        due.is(x.fire(DELAY), FINDING);
        due.are(Flows.trace(x, 4), 6, NONE, NONE, NONE);
        x.first(0, 0);
        x.deal(SHARE, 1);
        x.deal(DELAY, 2);
        x.schedule(0);
        due.is(x.go(0), 0);
        due.are(Flows.trace(x, 4), 1, NONE, NONE, NONE);
        due.is(x.go(0), 1);
        due.are(Flows.trace(x, 4), 2, 1, NONE, NONE);
        due.is(x.go(2), FINDING);
        due.are(Flows.trace(x, 4), 6, NONE, NONE, NONE);
    }

    private static void deal() {
        due.promise(34);
        EvenFlow x = new EvenFlow();
        due.is(x.deal(0, 0), BAD);
        x.part(FIXED, 0, 0);
        due.is(x.deal(1, 0), BAD);
        due.is(x.deal(-1, 0), BAD);
        due.is(x.deal(0, -1), BAD);
        due.is(x.deal(0, 4), BAD);
        due.is(x.deal(0, 3), 0);
        due.is(x.deal(0, 0), 3);
        due.is(x.deal(0, 0), 0);
        x.schedule(0);
        x.fire(0);
        x.deal(0, 1);
        due.is(x.many(2), 1);
        due.is(x.many(3), 1);
    }

    /** 0 gives 1, 1 takes 2, 2 is alone: FIRINGS 0 0 1 2. */
    private static EvenFlow threaded() {
        EvenFlow x = new EvenFlow();
        x.part(FIXED, 0, 0);
        x.part(FIXED, 0, 0);
        x.part(FIXED, 0, 0);
        x.line(0, 1, 1, 2);
        x.deal(1, 1);
        return x;
    }

    private static void go() {
        due.promise(35);
        EvenFlow x = threaded();
        due.is(x.go(-1), BAD);
        due.is(x.go(4), BAD);
        due.is(x.go(0), STATE);
        x.schedule(0);
        due.is(x.go(2), STATE);
        due.are(Flows.goes(x, 1, 0, 1, 0, 1, 1, 0, 0, 0, 1, 0), NONE, 0, NONE, 0, 1, NONE, 2, 0, 0, 1, 2);
        due.is(x.many(2), 8);
        due.is(x.gave(), 0);
    }

    private static void threadsBeginAnew() {
        due.promise(35);
        EvenFlow x = threaded();
        x.schedule(0);
        due.are(Flows.goes(x, 0, 0), 0, 0);
        x.schedule(0);
        due.are(Flows.goes(x, 0, 0, 0), 0, 0, 2);
        due.are(Flows.goes(x, 0, 0), 0, 0);
        x.deal(2, 0);
        due.are(Flows.goes(x, 0, 0, 0), 0, 0, 2);
        due.are(Flows.goes(x, 0, 0), 0, 0);
        x.deal(2, 9);
        x.schedule(9);
        due.are(Flows.goes(x, 0, 0), 2, 0);
        x.reset();
        due.are(Flows.goes(x, 0, 0), 0, 0);
        due.is(x.things(0), 2);
        x.first(0, 1);
        due.is(x.go(0), STATE);
        x.schedule(0);
        due.are(Flows.goes(x, 0, 0), 0, 0);
        x.thing(0, 0, 4);
        due.are(Flows.goes(x, 0, 0, 0), 0, 0, 2);
    }

    private static void goRefused() {
        due.promise(35);
        EvenFlow x = new EvenFlow();
        x.part(SHARE, 1, 0);
        x.part(FIXED, 0, 0);
        x.schedule(0);
        due.is(x.go(0), FINDING);
        due.is(x.finding(), NOUGHT);
        due.is(x.findings(NOUGHT), 1);
        // A FIRING that was none is still its next one.
        due.is(x.go(0), FINDING);
        due.is(x.fire(1), 1);
        due.is(x.go(0), FINDING);
        EvenFlow full = new EvenFlow();
        full.part(FIXED, 0, 0);
        full.part(FIXED, 0, 0);
        full.line(0, 50, 1, 50);
        full.deal(1, 1);
        full.schedule(0);
        for (int i = 0; i < 8; i++) {
            due.is(full.go(0), 0);
        }
        due.is(full.go(0), STATE);
        due.is(full.go(1), 1);
        due.is(full.go(0), 0);
    }

    /** Kahn's law: each LINE gets the same things however the THREADS go. */
    private static void sameInEveryOrder() {
        due.promise(35);
        int[][] orders = {{0, 1, 2}, {2, 1, 0}, {0, 0, 0, 1, 1, 2}, {1, 2, 2, 0, 1}};
        long[] first = null;
        for (int order = 0; order < 4; order++) {
            EvenFlow x = new EvenFlow();
            x.part(KEEPER, 3, 0);
            x.part(DELAY, 1, 2);
            x.part(PHASED, 2, 2);
            x.line(0, 2, 1, 1);
            x.line(1, 1, 2, 2);
            x.line(2, 2, 0, 2);
            x.first(2, 4);
            for (int p = 0; p < 3; p++) {
                x.deal(p, p);
            }
            x.schedule(order % 3);
            for (int i = 0; i < 60; i++) {
                x.go(orders[order][i % orders[order].length]);
            }
            long[] given = new long[12];
            for (int i = 0; i < 12; i++) {
                x.given(i % 3, i / 3);
                given[i] = x.asked();
            }
            if (first == null) {
                first = given;
            }
            due.are(given, first);
        }
    }

    private static void reset() {
        due.promise(36);
        EvenFlow x = new EvenFlow();
        due.is(x.reset(), 0);
        x.part(KEEPER, 1, 0);
        x.part(DELAY, 0, 1);
        x.part(PHASED, 0, 2);
        x.line(0, 1, 1, 1);
        x.first(0, 1);
        x.thing(0, 0, 9);
        long atFirst = x.digest();
        x.fire(0);
        x.fire(1);
        x.fire(2);
        x.fire(1);
        due.is(x.digest() == atFirst ? 1 : 0, 0);
        due.is(x.reset(), 4);
        due.is(x.digest(), atFirst);
        due.is(x.reset(), 0);
        due.is(x.given(0, 0), NONE);
        due.is(x.look(0, 0), 1);
        due.is(x.asked(), 9);
    }

    private static void things() {
        due.promise(37);
        EvenFlow x = new EvenFlow();
        x.part(FIXED, 0, 0);
        x.line(0, 5, 0, 2);
        x.first(0, 3);
        due.is(x.things(1), BAD);
        due.is(x.things(-1), BAD);
        due.is(x.things(0), 3);
        x.fire(0);
        due.is(x.things(0), 6);
    }

    private static void look() {
        due.promise(38);
        EvenFlow x = new EvenFlow();
        x.part(FIXED, 50, 0);
        x.line(0, 2, 0, 1);
        x.first(0, 2);
        x.thing(0, 0, 7);
        x.thing(0, 1, 8);
        due.is(x.look(1, 0), BAD);
        due.is(x.look(-1, 0), BAD);
        due.is(x.look(0, 2), FINDING);
        due.is(x.finding(), BEYOND);
        due.is(x.look(0, -1), FINDING);
        due.is(x.findings(BEYOND), 2);
        x.fire(0);
        long[] on = {8, 57, 58};
        for (int i = 0; i < 3; i++) {
            due.is(x.look(0, i), 1);
            due.is(x.asked(), on[i]);
        }
        due.is(x.look(0, 3), FINDING);
        due.is(x.asked(), 58);
        // Things that have gone round the row in which they are held stand in their order.
        EvenFlow y = new EvenFlow();
        y.part(KEEPER, 1, 0);
        y.part(FIXED, 0, 0);
        y.line(0, 49, 1, 49);
        for (int i = 0; i < 30; i++) {
            y.fire(0);
            y.fire(1);
        }
        y.fire(0);
        for (int i = 0; i < 49; i++) {
            due.is(y.look(0, i), 1);
            due.is(y.asked(), 31 + i);
        }
    }

    private static void given() {
        due.promise(39);
        EvenFlow x = new EvenFlow();
        x.part(FIXED, 3, 0);
        x.part(FIXED, 0, 0);
        x.line(0, 50, 1, 50);
        x.first(0, 1);
        x.thing(0, 0, 99);
        due.is(x.given(1, 0), BAD);
        due.is(x.given(0, -1), BAD);
        due.is(x.given(0, 200), BAD);
        due.is(x.given(0, 0), NONE);
        for (int i = 0; i < 3; i++) {
            x.fire(0);
        }
        due.is(x.given(0, 149), 1);
        due.is(x.asked(), 52);
        due.is(x.given(0, 150), NONE);
        due.is(x.given(0, 199), NONE);
        x.fire(1);
        x.fire(0);
        x.fire(0);
        due.is(x.given(0, 0), 1);
        due.is(x.asked(), 3);
        due.is(x.given(0, 199), 1);
        due.is(x.asked(), 52);
        x.reset();
        due.is(x.given(0, 0), NONE);
        due.is(x.asked(), 52);
    }

    private static void asked() {
        due.promise(40);
        EvenFlow x = new EvenFlow();
        due.is(x.asked(), 0);
        x.part(FIXED, 5, 0);
        x.line(0, 1, 0, 1);
        x.first(0, 1);
        x.thing(0, 0, Long.MAX_VALUE);
        due.is(x.asked(), 0);
        x.look(0, 0);
        due.is(x.asked(), Long.MAX_VALUE);
        x.look(0, 1);
        x.given(0, 0);
        x.look(9, 0);
        due.is(x.asked(), Long.MAX_VALUE);
        x.fire(0);
        x.given(0, 0);
        due.is(x.asked(), Long.MIN_VALUE + 4);
        x.reset();
        due.is(x.asked(), Long.MIN_VALUE + 4);
    }

    private static void many() {
        due.promise(41);
        EvenFlow x = new EvenFlow();
        due.is(x.many(-1), BAD);
        due.is(x.many(5), BAD);
        x.part(FIXED, 0, 0);
        x.part(FIXED, 0, 0);
        x.line(0, 1, 1, 3);
        x.fire(0);
        x.draft(1);
        due.is(x.many(0), 2);
        due.is(x.many(1), 1);
        due.is(x.many(2), 1);
        due.is(x.many(3), NONE);
        due.is(x.many(4), 1);
        x.schedule(0);
        due.is(x.many(3), 4);
    }

    private static void finding() {
        due.promise(42);
        EvenFlow x = new EvenFlow();
        due.is(x.finding(), 0);
        x.part(FIXED, 0, 0);
        x.fire(3);
        x.fire(0);
        x.line(0, 1, 0, 2);
        due.is(x.finding(), 0);
        x.look(0, 0);
        due.is(x.finding(), BEYOND);
        x.tear(0);
        due.is(x.finding(), CAST);
        x.part(DELAY, 0, -9);
        due.is(x.finding(), SIZE);
        x.reset();
        x.part(FIXED, 0, 0);
        due.is(x.finding(), SIZE);
    }

    private static void findings() {
        due.promise(43);
        EvenFlow x = new EvenFlow();
        due.is(x.findings(0), BAD);
        due.is(x.findings(6), BAD);
        for (int f = 1; f <= 5; f++) {
            due.is(x.findings(f), 0);
        }
        x.part(DELAY, 0, 1);
        x.part(SHARE, 0, 0);
        x.tear(0);
        for (int i = 0; i < 3; i++) {
            x.tear(0);
        }
        x.fire(0);
        x.fire(1);
        x.row(1, 0, 0);
        due.is(x.findings(NOTHING), 4);
        due.is(x.findings(BEYOND), 0);
        due.is(x.findings(CAST), 1);
        due.is(x.findings(NOUGHT), 1);
        due.is(x.findings(SIZE), 0);
    }

    private static long hash(long... values) {
        long h = 17;
        for (long v : values) {
            h = 31 * h + v;
        }
        return h;
    }

    private static void digest() {
        due.promise(44);
        EvenFlow x = new EvenFlow();
        due.is(x.digest(), 17);
        x.part(KEEPER, 3, 0);
        x.part(PHASED, 0, 2);
        x.part(DELAY, 0, 2);
        due.is(x.digest(), hash(2, 1, 1, 0, NONE, 0, 0, 4, 2, 1, 0, NONE, 0, 0, 5, 1, 1, 0, 2, 0, 0, 0, 0));
        x.row(2, 1, 6);
        x.line(0, 2, 1, 1);
        x.line(1, 3, 2, 3);
        x.first(1, 1);
        x.thing(1, 0, -5);
        x.time(1, 8);
        x.deal(2, 3);
        x.fire(0);
        x.fire(1);
        x.fire(2);
        x.schedule(0);
        long[] row = {0, 1, 1, 2, 2};
        for (int i = 0; i < 5; i++) {
            due.is(x.firing(i), row[i]);
        }
        due.is(x.digest(), hash(2, 1, 1, 0, NONE, 0, 9, 4, 2, 8, 0, NONE, 1, 0, 5, 1, 1, 3, 2, 0, 0, 6, 9 + 10 - 5,
            0, 1, 2, 1, 0, 1, 10, 1, 2, 3, 3, 1, 1, 11, 0, 1, 1, 2, 2));
        x.tear(2);
        due.is(x.digest(), hash(2, 1, 1, 0, NONE, 0, 0, 4, 2, 8, 0, NONE, 0, 0, 5, 1, 1, 3, NONE, 0, 0,
            0, 1, 2, 1, 0, 0, 1, 2, 3, 3, 1, 1, -5, 0, 1, 1, 2, 2));
    }
}
