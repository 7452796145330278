/** Promises 1 to 12. */
public final class PartsAndLinesTest {
    private static final int BAD = EvenFlow.BAD, FULL = EvenFlow.FULL, FINDING = EvenFlow.FINDING, NONE = EvenFlow.NONE, STATE = EvenFlow.STATE;
    private static final int NOTHING = 1, BEYOND = 2, CAST = 3, SIZE = 5;
    private static final int FIXED = 0, SCALED = 1, KEEPER = 2, SHARE = 3, PHASED = 4, DELAY = 5;
    private static final Due due = new Due();

    public static void main(String[] args) {
        newObject();
        part();
        line();
        whatChangesTakeAway();
        count();
        first();
        thing();
        row();
        copy();
        tear();
        told();
        is();
        ends();
        due.end();
    }

    private static void newObject() {
        due.promise(1);
        EvenFlow x = new EvenFlow();
        due.is(x.many(0), 0);
        due.is(x.many(1), 0);
        due.is(x.many(2), 0);
        due.is(x.many(3), NONE);
        due.is(x.many(4), 0);
        due.is(x.told(0, 0), BAD);
        due.is(x.ends(0, 0), BAD);
        due.is(x.finding(), 0);
        due.is(x.tries(), 0);
        due.is(x.gave(), 0);
        due.is(x.asked(), 0);
        due.is(x.digest(), 17);
        due.is(x.round(), STATE);
    }

    private static void part() {
        due.promise(2);
        EvenFlow x = new EvenFlow();
        due.is(x.part(-1, 0, 1), BAD);
        due.is(x.part(6, 0, 1), BAD);
        due.is(x.part(PHASED, 0, 0), BAD);
        due.is(x.part(PHASED, 0, 5), BAD);
        due.is(x.part(PHASED, 0, -3), BAD);
        due.is(x.part(DELAY, 0, 13), BAD);
        due.is(x.part(DELAY, 0, -1), FINDING);
        due.is(x.finding(), SIZE);
        due.is(x.part(DELAY, 0, Integer.MIN_VALUE), FINDING);
        due.is(x.findings(SIZE), 2);
        due.is(x.many(0), 0);
        due.is(x.part(FIXED, 0, -7), 0);
        due.is(x.part(SHARE, 0, 99), 1);
        due.is(x.part(PHASED, 0, 4), 2);
        due.is(x.part(PHASED, 0, 1), 3);
        due.is(x.part(DELAY, 0, 12), 4);
        due.is(x.part(DELAY, 0, 0), 5);
        for (int p = 6; p < 12; p++) {
            due.is(x.part(KEEPER, p, 0), p);
        }
        due.is(x.part(FIXED, 0, 0), FULL);
        due.is(x.part(DELAY, 0, -1), FULL);
        due.is(x.part(DELAY, 0, 13), BAD);
        due.is(x.findings(SIZE), 2);
        due.is(x.many(0), 12);
    }

    private static void line() {
        due.promise(3);
        EvenFlow x = new EvenFlow();
        due.is(x.line(0, 1, 0, 1), BAD);
        x.part(FIXED, 0, 0);
        x.part(PHASED, 0, 2);
        due.is(x.line(-1, 1, 0, 1), BAD);
        due.is(x.line(0, 1, 2, 1), BAD);
        due.is(x.line(0, 0, 1, 1), BAD);
        due.is(x.line(0, 51, 1, 1), BAD);
        due.is(x.line(0, 1, 1, 0), BAD);
        due.is(x.line(0, 1, 1, 51), BAD);
        due.is(x.line(1, 0, 0, 1), BAD);
        due.is(x.line(0, 50, 1, 50), 0);
        due.is(x.line(1, 1, 1, 1), 1);
        for (int l = 2; l < 20; l++) {
            due.is(x.line(0, 1, 1, 1), l);
        }
        due.is(x.line(0, 1, 1, 1), FULL);
        due.is(x.line(0, 0, 1, 1), BAD);
        due.is(x.many(1), 20);
    }

    /** A KEEPER that gives to a DELAY, with a SCHEDULE, ONCE, and FIRINGS done. */
    private static EvenFlow busy() {
        EvenFlow x = new EvenFlow();
        x.part(KEEPER, 1, 0);
        x.part(DELAY, 0, 2);
        x.part(PHASED, 0, 2);
        x.line(0, 1, 1, 1);
        x.line(2, 1, 2, 1);
        x.first(1, 2);
        x.row(1, 0, 5);
        x.schedule(0);
        x.fire(0);
        x.fire(2);
        x.fire(1);
        return x;
    }

    private static void stateIsFirst(EvenFlow x) {
        due.is(x.many(2), 0);
        due.is(x.things(0), 0);
        due.is(x.given(0, 0), NONE);
        due.is(x.fire(0), 1);
        due.is(x.gave(), 1);
        due.is(x.fire(2), 1);
        due.is(x.trace(0), 5);
    }

    private static void whatChangesTakeAway() {
        due.promise(3);
        due.is(busy().many(2), 3);
        due.is(busy().many(3), 4);
        EvenFlow x = busy();
        x.part(FIXED, 0, 0);
        due.is(x.many(3), NONE);
        stateIsFirst(x);
        x = busy();
        x.line(0, 1, 1, 1);
        due.is(x.many(3), NONE);
        stateIsFirst(x);
        x = busy();
        x.count(1, true, 0, 1);
        due.is(x.many(3), NONE);
        stateIsFirst(x);
        x = busy();
        x.first(1, 2);
        due.is(x.many(3), NONE);
        stateIsFirst(x);
        x = busy();
        x.thing(1, 0, 0);
        due.is(x.many(3), 4);
        stateIsFirst(x);
        x = busy();
        x.row(1, 1, 0);
        due.is(x.many(3), 4);
        stateIsFirst(x);
        due.is(x.fire(1), 1);
        due.is(x.gave(), 5);
        x = busy();
        x.copy(1, 0, 1, 1, 0);
        due.is(x.many(3), 4);
        stateIsFirst(x);
        x = busy();
        x.tear(1);
        due.is(x.many(3), 4);
        stateIsFirst(x);
        x = busy();
        x.line(0, 0, 1, 1);
        x.part(9, 0, 0);
        x.part(DELAY, 0, -1);
        x.count(0, false, 0, 1);
        x.first(0, 61);
        x.thing(0, 0, 1);
        x.row(1, 2, 1);
        x.copy(1, 0, 1, 0, 3);
        x.tear(0);
        due.is(x.many(2), 3);
        due.is(x.many(3), 4);
        onceGoesToo();
    }

    private static void onceGoesToo() {
        EvenFlow x = new EvenFlow();
        x.part(FIXED, 0, 0);
        due.is(x.once(), 0);
        due.is(x.bracket(0), -1);
        x.schedule(0);
        due.is(x.bracket(0), -1);
        x.part(FIXED, 0, 0);
        due.is(x.bracket(0), NONE);
        due.is(x.once(), 0);
        due.is(x.bracket(1), -2);
        x.line(0, 1, 1, 1);
        due.is(x.bracket(0), NONE);
        x.once();
        x.thing(0, 0, 1);
        due.is(x.bracket(0), -1);
        x.first(0, 1);
        due.is(x.bracket(0), NONE);
    }

    private static void count() {
        due.promise(4);
        EvenFlow x = new EvenFlow();
        x.part(PHASED, 0, 3);
        x.part(FIXED, 0, 0);
        x.line(0, 7, 1, 2);
        x.line(1, 3, 0, 4);
        due.is(x.count(2, false, 0, 1), BAD);
        due.is(x.count(-1, false, 0, 1), BAD);
        due.is(x.count(0, false, 0, -1), BAD);
        due.is(x.count(0, true, 0, 51), BAD);
        due.is(x.findings(CAST), 0);
        due.is(x.count(0, true, 9, 1), FINDING);
        due.is(x.finding(), CAST);
        due.is(x.count(1, false, 0, 1), FINDING);
        due.is(x.findings(CAST), 2);
        due.is(x.count(0, false, 3, 1), FINDING);
        due.is(x.finding(), BEYOND);
        due.is(x.count(0, false, -1, 1), FINDING);
        due.is(x.findings(BEYOND), 2);
        due.is(x.count(0, false, 0, 50), 7);
        due.is(x.count(0, false, 0, 0), 50);
        due.is(x.count(0, false, 2, 9), 7);
        due.is(x.count(0, false, 2, 9), 9);
        due.is(x.count(1, true, 1, 5), 4);
        due.is(x.ends(0, 2), 0);
        due.is(x.ends(1, 3), 4);
    }

    private static void first() {
        due.promise(5);
        EvenFlow x = new EvenFlow();
        x.part(FIXED, 0, 0);
        x.line(0, 1, 0, 1);
        due.is(x.first(1, 1), BAD);
        due.is(x.first(-1, 1), BAD);
        due.is(x.first(0, -1), BAD);
        due.is(x.first(0, 61), BAD);
        due.is(x.things(0), 0);
        due.is(x.first(0, 60), 60);
        due.is(x.things(0), 60);
        due.is(x.thing(0, 59, 4), 1);
        due.is(x.look(0, 59), 1);
        due.is(x.asked(), 4);
        due.is(x.first(0, 60), 60);
        due.is(x.look(0, 59), 1);
        due.is(x.asked(), 0);
        due.is(x.first(0, 0), 0);
        due.is(x.things(0), 0);
    }

    private static void thing() {
        due.promise(6);
        EvenFlow x = new EvenFlow();
        x.part(FIXED, 0, 0);
        x.line(0, 1, 0, 1);
        due.is(x.thing(1, 0, 1), BAD);
        due.is(x.thing(0, 0, 1), FINDING);
        due.is(x.finding(), BEYOND);
        x.first(0, 2);
        due.is(x.thing(0, 2, 1), FINDING);
        due.is(x.thing(0, -1, 1), FINDING);
        due.is(x.thing(0, 0, Long.MIN_VALUE), 1);
        due.is(x.thing(0, 1, 9), 1);
        x.look(0, 0);
        due.is(x.asked(), Long.MIN_VALUE);
        x.fire(0);
        x.look(0, 0);
        due.is(x.asked(), 9);
        x.reset();
        x.look(0, 0);
        due.is(x.asked(), Long.MIN_VALUE);
    }

    private static void row() {
        due.promise(7);
        EvenFlow x = new EvenFlow();
        x.part(FIXED, 0, 0);
        x.part(DELAY, 3, 2);
        due.is(x.row(2, 0, 1), BAD);
        due.is(x.row(-1, 0, 1), BAD);
        due.is(x.row(0, 5, 1), FINDING);
        due.is(x.finding(), CAST);
        due.is(x.row(1, 2, 1), FINDING);
        due.is(x.finding(), BEYOND);
        due.is(x.row(1, -1, 1), FINDING);
        due.is(x.findings(BEYOND), 2);
        due.is(x.row(1, 1, 8), 1);
        x.fire(1);
        due.is(x.gave(), 0);
        x.fire(1);
        due.is(x.gave(), 8);
        x.fire(1);
        due.is(x.gave(), 3);
        x.tear(1);
        due.is(x.row(1, 7, 1), FINDING);
        due.is(x.finding(), NOTHING);
    }

    private static long[] rowOf(EvenFlow x, int part, int places) {
        x.reset();
        long[] row = new long[places];
        for (int i = 0; i < places; i++) {
            x.fire(part);
            row[i] = x.gave();
        }
        return row;
    }

    private static void copy() {
        due.promise(8);
        EvenFlow x = new EvenFlow();
        x.part(DELAY, 0, 4);
        x.part(DELAY, 0, 3);
        x.part(FIXED, 0, 0);
        for (int i = 0; i < 4; i++) {
            x.row(0, i, i + 1);
        }
        due.is(x.copy(0, 0, 3, 0, 1), BAD);
        due.is(x.copy(-1, 0, 0, 0, 1), BAD);
        due.is(x.copy(2, 0, 0, 0, 1), FINDING);
        due.is(x.finding(), CAST);
        due.is(x.copy(0, 9, 2, 0, 1), FINDING);
        due.is(x.findings(CAST), 2);
        due.is(x.copy(0, 2, 1, 0, 3), FINDING);
        due.is(x.finding(), BEYOND);
        due.is(x.copy(0, 0, 1, 0, 4), FINDING);
        due.is(x.copy(0, 0, 1, 0, -1), FINDING);
        due.is(x.copy(0, -1, 1, 0, 1), FINDING);
        due.is(x.copy(0, 0, 1, -1, 1), FINDING);
        due.is(x.copy(0, 5, 1, 0, 0), FINDING);
        due.is(x.copy(0, 1, 1, 0, Integer.MAX_VALUE), FINDING);
        due.is(x.copy(0, Integer.MAX_VALUE, 1, 0, 1), FINDING);
        due.is(x.findings(BEYOND), 8);
        due.is(x.copy(0, 4, 1, 3, 0), 1);
        due.are(rowOf(x, 1, 3), 0, 0, 0);
        due.is(x.copy(0, 1, 1, 0, 3), 1);
        due.are(rowOf(x, 1, 3), 2, 3, 4);
        due.is(x.copy(0, 0, 0, 1, 3), 1);
        due.are(rowOf(x, 0, 4), 1, 1, 2, 3);
        due.is(x.copy(0, 1, 0, 0, 3), 1);
        due.are(rowOf(x, 0, 4), 1, 2, 3, 3);
        x.fire(0);
        due.is(x.copy(0, 0, 1, 2, 1), 1);
        due.are(rowOf(x, 1, 3), 2, 3, 1);
        x.tear(1);
        due.is(x.copy(0, 9, 1, 0, 1), FINDING);
        due.is(x.finding(), NOTHING);
        due.is(x.copy(1, 0, 0, 0, 0), FINDING);
        due.is(x.copy(1, 0, 2, 0, 0), FINDING);
        due.is(x.finding(), CAST);
    }

    private static void tear() {
        due.promise(9);
        EvenFlow x = new EvenFlow();
        x.part(DELAY, 0, 0);
        x.part(SCALED, 0, 0);
        due.is(x.tear(2), BAD);
        due.is(x.tear(1), FINDING);
        due.is(x.finding(), CAST);
        due.is(x.told(0, 4), 0);
        due.is(x.tear(0), 1);
        due.is(x.told(0, 4), NONE);
        due.is(x.tear(0), FINDING);
        due.is(x.finding(), NOTHING);
        due.is(x.fire(0), FINDING);
        x.reset();
        due.is(x.told(0, 4), NONE);
    }

    private static void told() {
        due.promise(10);
        EvenFlow x = new EvenFlow();
        x.part(PHASED, 0, 3);
        x.part(DELAY, 0, 12);
        x.part(KEEPER, 0, 3);
        due.is(x.told(3, 0), BAD);
        due.is(x.told(-1, 0), BAD);
        due.is(x.told(0, -1), BAD);
        due.is(x.told(0, 5), BAD);
        due.is(x.told(0, 0), PHASED);
        due.is(x.told(1, 0), DELAY);
        due.is(x.told(2, 0), KEEPER);
        due.is(x.told(0, 1), 3);
        due.is(x.told(1, 1), 1);
        due.is(x.told(2, 1), 1);
        due.is(x.told(0, 2), 1);
        x.time(0, 1000);
        due.is(x.told(0, 2), 1000);
        due.is(x.told(1, 3), 0);
        x.deal(1, 3);
        due.is(x.told(1, 3), 3);
        due.is(x.told(0, 4), NONE);
        due.is(x.told(1, 4), 12);
        due.is(x.told(2, 4), NONE);
    }

    private static void is() {
        due.promise(11);
        EvenFlow x = new EvenFlow();
        int[][] under = {
            {1, 0, 0, 0, 0, 0},
            {1, 1, 0, 0, 0, 0},
            {1, 1, 1, 0, 0, 0},
            {1, 1, 0, 1, 0, 0},
            {1, 0, 0, 0, 1, 0},
            {1, 0, 0, 0, 0, 1},
        };
        for (int kind = 0; kind < 6; kind++) {
            x.part(kind, 0, 1);
        }
        for (int kind = 0; kind < 6; kind++) {
            for (int other = 0; other < 6; other++) {
                due.is(x.is(kind, other), under[kind][other]);
            }
        }
        due.is(x.is(6, 0), BAD);
        due.is(x.is(-1, 0), BAD);
        due.is(x.is(0, 6), BAD);
        due.is(x.is(0, -1), BAD);
    }

    private static void ends() {
        due.promise(12);
        EvenFlow x = new EvenFlow();
        x.part(FIXED, 0, 0);
        x.part(PHASED, 0, 2);
        x.line(1, 4, 0, 5);
        x.first(0, 6);
        x.count(0, false, 0, 0);
        due.is(x.ends(1, 0), BAD);
        due.is(x.ends(-1, 0), BAD);
        due.is(x.ends(0, -1), BAD);
        due.is(x.ends(0, 5), BAD);
        due.is(x.ends(0, 0), 1);
        due.is(x.ends(0, 1), 0);
        due.is(x.ends(0, 2), 0);
        due.is(x.ends(0, 3), 5);
        due.is(x.ends(0, 4), 6);
        x.fire(0);
        due.is(x.ends(0, 4), 6);
    }
}
