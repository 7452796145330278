/** The edges that promises 1 to 12 name, sentence by sentence. */
public final class PartsEdgesTest {
    private static final int BAD = EvenFlow.BAD, FULL = EvenFlow.FULL, FINDING = EvenFlow.FINDING, NONE = EvenFlow.NONE, STATE = EvenFlow.STATE;
    private static final int NOTHING = 1, BEYOND = 2, CAST = 3, SIZE = 5;
    private static final int FIXED = 0, SCALED = 1, KEEPER = 2, SHARE = 3, PHASED = 4, DELAY = 5;
    private static final int LEAST = Integer.MIN_VALUE, MOST = Integer.MAX_VALUE;
    private static final Due due = new Due();

    public static void main(String[] args) {
        noParts();
        partKinds();
        partSizes();
        partOthers();
        partRefused();
        lineRefused();
        takesAway();
        putsToFirst();
        doneAlone();
        count();
        countInOrder();
        first();
        thing();
        row();
        rowAsTold();
        copyPlaces();
        copyRefused();
        copyInOrder();
        tear();
        told();
        is();
        ends();
        due.end();
    }

    private static void noParts() {
        due.says(1, "No PARTS.");
        EvenFlow x = new EvenFlow();
        due.is(x.many(0), 0);
        due.is(x.many(1), 0);
        due.is(x.told(0, 0), BAD);
        due.is(x.is(0, 0), BAD);
        due.is(x.may(0), BAD);
        due.is(x.fire(0), BAD);
        due.is(x.line(0, 1, 0, 1), BAD);
        due.is(x.round(), STATE);
        due.is(x.uneven(), STATE);
        due.is(x.digest(), 17);
        // Each object has its own.
        EvenFlow other = Flows.parts(3);
        due.is(other.many(0), 3);
        due.is(x.many(0), 0);
        due.is(new EvenFlow().many(0), 0);
    }

    private static void partKinds() {
        due.says(2, "A PART of a KIND (0 .. 5), with K;");
        EvenFlow x = new EvenFlow();
        due.is(x.part(-1, 0, 1), BAD);
        due.is(x.part(6, 0, 1), BAD);
        due.is(x.part(LEAST, 0, 1), BAD);
        due.is(x.part(MOST, 0, 1), BAD);
        due.is(x.many(0), 0);
        for (int kind = 0; kind <= 5; kind++) {
            due.is(x.part(kind, 5, 1), kind);
            due.is(x.told(kind, 0), kind);
        }
        due.are(Flows.gives(x, FIXED, 1), 5);
        due.are(Flows.gives(x, SCALED, 1), 25);
        due.are(Flows.gives(x, KEEPER, 2), 25, 50);
        due.are(Flows.gives(x, PHASED, 1), 5);
        due.are(Flows.gives(x, DELAY, 2), 0, 5);
    }

    private static void partSizes() {
        due.says(2, "n: how many PHASES of a PHASED one (1 .. 4), places of a DELAY's ROW (0 .. 12; all 0);");
        EvenFlow x = new EvenFlow();
        for (int n = 1; n <= 4; n++) {
            due.is(x.part(PHASED, 0, n), n - 1);
            due.is(x.told(n - 1, 1), n);
        }
        int[] places = {0, 1, 11, 12};
        for (int i = 0; i < 4; i++) {
            due.is(x.part(DELAY, 7, places[i]), 4 + i);
            due.is(x.told(4 + i, 4), places[i]);
            due.are(Flows.gives(x, 4 + i, places[i]), new long[places[i]]);
            due.are(Flows.gives(x, 4 + i, 1), 7);
        }
    }

    private static void partOthers() {
        due.says(2, "of others it is not looked at: its number.");
        EvenFlow x = new EvenFlow();
        int[] sizes = {-1, 0, 5, 13, LEAST, MOST};
        for (int i = 0; i < 6; i++) {
            due.is(x.part(i % 4, 0, sizes[i]), i);
            due.is(x.told(i, 1), 1);
            due.is(x.told(i, 4), NONE);
            due.is(x.firings(i), 1);
        }
    }

    private static void partRefused() {
        due.says(2, "BAD: n above these, PHASES below 1; FULL; SIZE: a DELAY's n below 0.");
        EvenFlow x = new EvenFlow();
        due.is(x.part(PHASED, 0, 5), BAD);
        due.is(x.part(PHASED, 0, MOST), BAD);
        due.is(x.part(PHASED, 0, 0), BAD);
        due.is(x.part(PHASED, 0, -1), BAD);
        due.is(x.part(PHASED, 0, LEAST), BAD);
        due.is(x.part(DELAY, 0, 13), BAD);
        due.is(x.part(DELAY, 0, MOST), BAD);
        due.is(x.finding(), 0);
        due.is(x.part(DELAY, 0, -1), FINDING);
        due.is(x.finding(), SIZE);
        due.is(x.part(DELAY, 0, LEAST), FINDING);
        due.is(x.findings(SIZE), 2);
        due.is(x.many(0), 0);
        for (int p = 0; p < 11; p++) {
            x.part(FIXED, 0, 0);
        }
        due.is(x.part(DELAY, 0, -1), FINDING);
        due.is(x.part(DELAY, 0, 0), 11);
        due.is(x.part(FIXED, 0, 0), FULL);
        due.is(x.part(DELAY, 0, -1), FULL);
        due.is(x.part(DELAY, 0, 13), BAD);
        due.is(x.part(PHASED, 0, 0), BAD);
        due.is(x.part(6, 0, 0), BAD);
        due.is(x.findings(SIZE), 3);
        due.is(x.many(0), 12);
    }

    private static void lineRefused() {
        due.says(3, "A LINE with COUNTS: its number. BAD; FULL.");
        EvenFlow x = Flows.parts(2);
        x.part(PHASED, 0, 2);
        int[][] bad = {{-1, 1, 0, 1}, {3, 1, 0, 1}, {0, 1, -1, 1}, {0, 1, 3, 1}, {LEAST, 1, 0, 1}, {0, 1, MOST, 1}, {0, 0, 1, 1}, {0, 51, 1, 1},
            {0, 1, 1, 0}, {0, 1, 1, 51}, {0, -1, 1, 1}, {0, 1, 1, MOST}, {2, 0, 0, 1}, {0, 1, 2, 0}};
        for (int[] b : bad) {
            due.is(x.line(b[0], b[1], b[2], b[3]), BAD);
        }
        due.is(x.many(1), 0);
        due.is(x.line(0, 1, 1, 50), 0);
        due.is(x.line(2, 50, 2, 1), 1);
        for (int l = 2; l < 20; l++) {
            due.is(x.line(1, 1, 0, 1), l);
        }
        due.is(x.line(1, 1, 0, 1), FULL);
        for (int[] b : bad) {
            due.is(x.line(b[0], b[1], b[2], b[3]), BAD);
        }
        due.is(x.many(1), 20);
    }

    /** A KEEPER that gives to a DELAY, a PART with PHASES on its own LINE; ONCE is not done, a SCHEDULE is, and FIRINGS are. */
    private static EvenFlow busy() {
        EvenFlow x = Flows.one(KEEPER, 1, 0);
        x.part(DELAY, 0, 2);
        x.part(PHASED, 0, 2);
        x.line(0, 1, 1, 1);
        x.line(2, 1, 2, 1);
        x.first(1, 2);
        x.row(1, 0, 5);
        x.schedule(0);
        for (int p : new int[] {0, 0, 1, 2}) {
            x.fire(p);
        }
        return x;
    }

    /** The same without PHASES, with ONCE, and a SCHEDULE by RULE 2 behind it. */
    private static EvenFlow busyOnce() {
        EvenFlow x = Flows.one(KEEPER, 1, 0);
        x.part(DELAY, 0, 2);
        x.line(0, 2, 1, 1);
        x.first(0, 1);
        x.once();
        return x;
    }

    private static void takesAway() {
        due.says(3, "(part(), line(), count(), first() that are done take the latest SCHEDULE, and ONCE, away;");
        for (int call = 0; call < 4; call++) {
            EvenFlow x = call == 2 ? busy() : busyOnce();
            due.is(x.many(3), call == 2 ? 4 : 3);
            due.is(x.bracket(0), call == 2 ? NONE : -1);
            switch (call) {
                case 0:
                    due.is(x.part(FIXED, 0, 0), 2);
                    break;
                case 1:
                    due.is(x.line(0, 2, 1, 1), 1);
                    break;
                case 2:
                    due.is(x.count(1, true, 0, 1), 1);
                    break;
                default:
                    due.is(x.first(0, 1), 1);
                    break;
            }
            due.is(x.many(3), NONE);
            due.is(x.firing(0), NONE);
            due.is(x.store(0), NONE);
            due.is(x.marking(0, 0), NONE);
            due.is(x.bracket(0), NONE);
            due.is(x.go(0), STATE);
        }
        // The others leave both.
        EvenFlow y = busyOnce();
        y.thing(0, 0, 7);
        y.row(1, 1, 7);
        y.copy(1, 0, 1, 1, 1);
        y.tear(1);
        y.reset();
        y.time(0, 7);
        y.deal(0, 1);
        y.draft(0);
        due.is(y.many(3), 3);
        due.are(Flows.brackets(y, 5), -1, 3, -2, 0, NONE);
    }

    /** What each call that puts THE STATE to THE FIRST MARKING is done with. */
    private static int change(EvenFlow x, int call) {
        switch (call) {
            case 0:
                return x.part(FIXED, 0, 0);
            case 1:
                return x.line(0, 1, 1, 1);
            case 2:
                return x.count(1, true, 0, 1);
            case 3:
                return x.first(1, 2);
            case 4:
                return x.thing(1, 0, 0);
            case 5:
                return x.row(1, 1, 0);
            case 6:
                return x.copy(1, 0, 1, 0, 2);
            case 7:
                return x.copy(1, 2, 1, 2, 0);
            default:
                return x.tear(1);
        }
    }

    private static void putsToFirst() {
        due.says(3, "these, thing(), row(), copy(), tear() put THE STATE to THE FIRST MARKING as reset() does: nothing kept, ROWS as they were told.)");
        int[] answers = {3, 2, 1, 2, 1, 1, 1, 1, 1};
        for (int call = 0; call < 9; call++) {
            EvenFlow x = busy();
            due.is(x.many(2), 4);
            due.is(change(x, call), answers[call]);
            due.is(x.many(2), 0);
            due.is(x.things(0), 0);
            due.is(x.things(1), 2);
            due.is(x.given(0, 0), NONE);
            due.is(x.reset(), 0);
            due.are(Flows.gives(x, 0, 2), 1, 2);
            due.are(Flows.gives(x, 2, 2), 0, 1);
            if (call < 8) {
                due.are(Flows.gives(x, 1, 2), 5, 0);
            }
        }
    }

    private static void doneAlone() {
        due.says(3, "(part(), line(), count(), first() that are done");
        EvenFlow x = busy();
        x.part(6, 0, 0);
        x.part(DELAY, 0, -1);
        x.line(0, 0, 1, 1);
        x.count(1, true, 0, 51);
        x.count(0, true, 0, 1);
        x.count(1, true, 2, 1);
        x.first(1, 61);
        x.thing(1, 2, 0);
        x.row(1, 2, 0);
        x.row(0, 0, 0);
        x.copy(1, 0, 1, 1, 2);
        x.copy(1, 0, 0, 0, 0);
        x.tear(0);
        due.is(x.many(2), 4);
        due.is(x.many(3), 4);
        due.is(x.things(0), 1);
        due.are(Flows.gives(x, 2, 1), 1);
        due.are(Flows.gives(x, 0, 1), 3);
        EvenFlow full = Flows.parts(12);
        for (int l = 0; l < 20; l++) {
            full.line(0, 1, 1, 1);
        }
        full.once();
        full.fire(0);
        full.part(FIXED, 0, 0);
        full.line(0, 1, 1, 1);
        due.is(full.many(2), 1);
        due.is(full.many(3), 12);
        due.is(full.bracket(0), -1);
    }

    private static void count() {
        due.says(4, "At the end of a LINE (taking: at which things are taken) the COUNT of a PHASE of its PHASED PART is n: what it was.");
        EvenFlow x = Flows.one(PHASED, 0, 2);
        x.line(0, 7, 0, 9);
        due.is(x.count(0, false, 0, 0), 7);
        due.is(x.count(0, false, 0, 50), 0);
        due.is(x.count(0, false, 1, 1), 7);
        due.is(x.count(0, true, 0, 2), 9);
        due.is(x.count(0, true, 1, 3), 9);
        due.is(x.count(0, false, 0, 50), 50);
        due.is(x.ends(0, 2), 50);
        due.is(x.ends(0, 3), 2);
        due.is(x.count(0, true, 1, 3), 3);
        x.first(0, 5);
        x.fire(0);
        due.is(x.things(0), 53);
        x.fire(0);
        due.is(x.things(0), 51);
    }

    private static void countInOrder() {
        due.says(4, "BAD: LINE, n not 0 .. 50; CAST: no PHASED PART is at that end; BEYOND: the PHASE. (In this order.)");
        EvenFlow x = Flows.one(PHASED, 0, 3);
        x.part(DELAY, 0, 4);
        x.line(0, 7, 1, 2);
        x.line(1, 3, 0, 4);
        due.is(x.count(-1, false, 0, 1), BAD);
        due.is(x.count(2, false, 0, 1), BAD);
        due.is(x.count(0, false, 0, -1), BAD);
        due.is(x.count(0, false, 0, 51), BAD);
        due.is(x.count(0, true, 9, 51), BAD);
        due.is(x.count(1, false, 9, -1), BAD);
        due.is(x.count(0, false, 3, 51), BAD);
        due.is(x.finding(), 0);
        due.is(x.count(0, true, 0, 1), FINDING);
        due.is(x.finding(), CAST);
        due.is(x.count(1, false, 3, 1), FINDING);
        due.is(x.count(1, false, -1, 0), FINDING);
        due.is(x.findings(CAST), 3);
        due.is(x.findings(BEYOND), 0);
        due.is(x.count(0, false, 3, 1), FINDING);
        due.is(x.finding(), BEYOND);
        due.is(x.count(1, true, -1, 50), FINDING);
        due.is(x.count(1, true, MOST, 0), FINDING);
        due.is(x.count(1, true, LEAST, 0), FINDING);
        due.is(x.findings(BEYOND), 4);
        due.is(x.count(0, false, 2, 1), 7);
        due.is(x.count(1, true, 2, 1), 4);
        // A PART with one PHASE has none but 0.
        x.part(PHASED, 0, 1);
        x.line(2, 1, 2, 1);
        due.is(x.count(2, true, 1, 1), FINDING);
        due.is(x.finding(), BEYOND);
        due.is(x.count(2, true, 0, 1), 1);
    }

    private static void first() {
        due.says(5, "A LINE has n FIRST THINGS, all 0: n. BAD.");
        EvenFlow x = Flows.chain(1, 1);
        due.is(x.first(-1, 1), BAD);
        due.is(x.first(1, 1), BAD);
        due.is(x.first(0, -1), BAD);
        due.is(x.first(0, 61), BAD);
        due.is(x.first(0, MOST), BAD);
        due.is(x.first(0, LEAST), BAD);
        due.is(x.things(0), 0);
        due.is(x.first(0, 60), 60);
        for (int i = 0; i < 60; i++) {
            due.is(x.thing(0, i, 7 + i), 1);
        }
        // Those that were told are gone, also when there are fewer, and then again more.
        due.is(x.first(0, 2), 2);
        due.are(Flows.things(x, 0), 0, 0);
        x.thing(0, 1, 9);
        due.is(x.first(0, 60), 60);
        due.are(Flows.things(x, 0), new long[60]);
        due.is(x.first(0, 0), 0);
        due.is(x.things(0), 0);
        due.is(x.ends(0, 4), 0);
    }

    private static void thing() {
        due.says(6, "FIRST THING i of a LINE is v: 1. BAD: the LINE; BEYOND.");
        EvenFlow x = Flows.chain(1, 1);
        due.is(x.thing(1, 0, 1), BAD);
        due.is(x.thing(-1, 0, 1), BAD);
        due.is(x.finding(), 0);
        due.is(x.thing(0, 0, 1), FINDING);
        due.is(x.finding(), BEYOND);
        x.first(0, 3);
        due.is(x.thing(0, 3, 1), FINDING);
        due.is(x.thing(0, -1, 1), FINDING);
        due.is(x.thing(0, MOST, 1), FINDING);
        due.is(x.thing(0, LEAST, 1), FINDING);
        due.is(x.findings(BEYOND), 5);
        due.is(x.thing(0, 0, Long.MIN_VALUE), 1);
        due.is(x.thing(0, 2, Long.MAX_VALUE), 1);
        due.are(Flows.things(x, 0), Long.MIN_VALUE, 0, Long.MAX_VALUE);
        // FIRST THINGS, not those that are on the LINE now.
        x.fire(0);
        due.is(x.things(0), 4);
        due.is(x.thing(0, 3, 1), FINDING);
        x.fire(1);
        x.fire(1);
        x.fire(1);
        due.is(x.thing(0, 2, 6), 1);
        due.are(Flows.things(x, 0), Long.MIN_VALUE, 0, 6);
    }

    private static void row() {
        due.says(7, "BAD: the PART; CAST; NOTHING; BEYOND.");
        EvenFlow x = Flows.one(DELAY, 3, 2);
        x.part(FIXED, 0, 0);
        x.part(PHASED, 0, 4);
        x.part(DELAY, 3, 0);
        x.part(DELAY, 3, 12);
        due.is(x.row(5, 0, 1), BAD);
        due.is(x.row(-1, 0, 1), BAD);
        due.is(x.finding(), 0);
        due.is(x.row(1, 0, 1), FINDING);
        due.is(x.finding(), CAST);
        due.is(x.row(2, 99, 1), FINDING);
        due.is(x.findings(CAST), 2);
        due.is(x.row(0, 2, 1), FINDING);
        due.is(x.finding(), BEYOND);
        due.is(x.row(0, -1, 1), FINDING);
        due.is(x.row(3, 0, 1), FINDING);
        due.is(x.row(4, 12, 1), FINDING);
        due.is(x.row(4, LEAST, 1), FINDING);
        due.is(x.findings(BEYOND), 5);
        due.is(x.row(0, 0, 1), 1);
        due.is(x.row(0, 1, 1), 1);
        due.is(x.row(4, 11, 1), 1);
        x.tear(0);
        due.is(x.row(0, 0, 1), FINDING);
        due.is(x.finding(), NOTHING);
        due.is(x.row(0, 99, 1), FINDING);
        due.is(x.findings(NOTHING), 2);
        due.is(x.findings(BEYOND), 5);
    }

    private static void rowAsTold() {
        due.says(7, "A place of a DELAY's ROW is told to be v (at THE FIRST MARKING): 1.");
        EvenFlow x = Flows.one(DELAY, 3, 3);
        x.row(0, 1, Long.MIN_VALUE);
        due.are(Flows.gives(x, 0, 4), 0, Long.MIN_VALUE, 0, 3);
        // The place is that of the ROW as told, whatever has moved since.
        due.is(x.row(0, 2, 8), 1);
        due.is(x.many(2), 0);
        due.are(Flows.gives(x, 0, 4), 0, Long.MIN_VALUE, 8, 3);
        x.reset();
        due.are(Flows.gives(x, 0, 3), 0, Long.MIN_VALUE, 8);
    }

    /** Two DELAYS, the places of the first 1 to 5. */
    private static EvenFlow delays() {
        EvenFlow x = Flows.one(DELAY, 0, 5);
        x.part(DELAY, 0, 3);
        x.part(FIXED, 0, 0);
        for (int i = 0; i < 5; i++) {
            x.row(0, i, i + 1);
        }
        return x;
    }

    private static long[] rowOf(EvenFlow x, int part) {
        x.reset();
        return Flows.gives(x, part, x.told(part, 4));
    }

    private static void copyPlaces() {
        due.says(8, "n places of a DELAY's ROW as told, from one on, come to those of another one's (or its own) from one on, as if taken ahead, all or none: 1.");
        EvenFlow x = delays();
        due.is(x.copy(0, 2, 1, 0, 3), 1);
        due.are(rowOf(x, 1), 3, 4, 5);
        due.is(x.copy(1, 0, 0, 4, 1), 1);
        due.are(rowOf(x, 0), 1, 2, 3, 4, 3);
        EvenFlow up = delays();
        due.is(up.copy(0, 0, 0, 1, 4), 1);
        due.are(rowOf(up, 0), 1, 1, 2, 3, 4);
        EvenFlow down = delays();
        due.is(down.copy(0, 1, 0, 0, 4), 1);
        due.are(rowOf(down, 0), 2, 3, 4, 5, 5);
        EvenFlow same = delays();
        due.is(same.copy(0, 0, 0, 0, 5), 1);
        due.are(rowOf(same, 0), 1, 2, 3, 4, 5);
        // As told: what has moved since is not copied.
        EvenFlow moved = delays();
        moved.fire(0);
        due.is(moved.copy(0, 0, 1, 0, 1), 1);
        due.are(rowOf(moved, 1), 1, 0, 0);
        // None at all.
        due.is(moved.copy(0, 0, 1, 0, 0), 1);
        due.is(moved.copy(0, 4, 1, 2, 0), 1);
        due.are(rowOf(moved, 1), 1, 0, 0);
        // All or none: of four only three would have a place.
        EvenFlow none = delays();
        due.is(none.copy(0, 0, 1, 0, 4), FINDING);
        due.is(none.copy(0, 3, 1, 0, 3), FINDING);
        due.are(rowOf(none, 1), 0, 0, 0);
    }

    private static void copyRefused() {
        due.says(8, "BEYOND: not so many there (a place, n below 0, too).");
        int[][] beyond = {{0, 0, 1, 0, 4}, {0, 3, 1, 0, 3}, {0, 0, 1, 1, 3}, {0, 5, 1, 0, 1}, {0, 0, 1, 3, 1}, {0, 6, 1, 0, 0}, {0, 0, 1, 4, 0},
            {0, -1, 1, 0, 1}, {0, 0, 1, -1, 1}, {0, -1, 1, 0, 0}, {0, 0, 1, -1, 0}, {0, 0, 1, 0, -1}, {0, 2, 1, 2, -2}, {0, 1, 1, 0, MOST},
            {0, MOST, 1, 0, 1}, {0, 0, 1, MOST, 1}, {0, LEAST, 1, 0, 1}, {0, 0, 1, 0, LEAST}, {0, 0, 0, 1, 5}, {0, 1, 0, 0, 5}};
        EvenFlow x = delays();
        for (int i = 0; i < beyond.length; i++) {
            due.is(x.copy(beyond[i][0], beyond[i][1], beyond[i][2], beyond[i][3], beyond[i][4]), FINDING);
            due.is(x.finding(), BEYOND);
            due.is(x.findings(BEYOND), i + 1);
        }
        due.are(rowOf(x, 0), 1, 2, 3, 4, 5);
        due.are(rowOf(x, 1), 0, 0, 0);
    }

    private static void copyInOrder() {
        due.says(8, "BAD: PARTS; CAST: either; NOTHING: either; BEYOND: not so many there (a place, n below 0, too). (In this order.)");
        EvenFlow x = delays();
        due.is(x.copy(3, 0, 0, 0, 1), BAD);
        due.is(x.copy(-1, 0, 0, 0, 1), BAD);
        due.is(x.copy(0, 0, 3, 0, 1), BAD);
        due.is(x.copy(0, 0, -1, 0, 1), BAD);
        due.is(x.copy(2, 0, 3, 0, 1), BAD);
        due.is(x.copy(3, 9, 2, 9, -1), BAD);
        due.is(x.finding(), 0);
        due.is(x.copy(2, 0, 0, 0, 1), FINDING);
        due.is(x.finding(), CAST);
        due.is(x.copy(0, 0, 2, 0, 1), FINDING);
        due.is(x.copy(2, 9, 2, 9, -1), FINDING);
        due.is(x.findings(CAST), 3);
        x.tear(1);
        due.is(x.copy(2, 0, 1, 0, 1), FINDING);
        due.is(x.copy(1, 0, 2, 0, 1), FINDING);
        due.is(x.findings(CAST), 5);
        due.is(x.findings(NOTHING), 0);
        due.is(x.copy(0, 0, 1, 0, 1), FINDING);
        due.is(x.finding(), NOTHING);
        due.is(x.copy(1, 0, 0, 0, 0), FINDING);
        due.is(x.copy(1, 9, 0, 9, -1), FINDING);
        due.is(x.copy(0, 9, 1, 9, -1), FINDING);
        due.is(x.copy(1, 0, 1, 0, 0), FINDING);
        due.is(x.findings(NOTHING), 5);
        due.is(x.findings(BEYOND), 0);
    }

    private static void tear() {
        due.says(9, "A DELAY has no ROW any more: 1. BAD; CAST; NOTHING.");
        EvenFlow x = Flows.one(DELAY, 4, 2);
        x.part(PHASED, 0, 2);
        x.part(DELAY, 4, 0);
        due.is(x.tear(3), BAD);
        due.is(x.tear(-1), BAD);
        due.is(x.tear(1), FINDING);
        due.is(x.finding(), CAST);
        due.is(x.tear(0), 1);
        due.is(x.told(0, 4), NONE);
        due.is(x.fire(0), FINDING);
        due.is(x.finding(), NOTHING);
        due.is(x.tear(0), FINDING);
        due.is(x.findings(NOTHING), 2);
        // Nor does it have one behind reset(), or when the graph is changed.
        x.reset();
        x.part(FIXED, 0, 0);
        due.is(x.told(0, 4), NONE);
        due.is(x.tear(0), FINDING);
        due.is(x.told(0, 0), DELAY);
        // A ROW without places is one.
        due.is(x.tear(2), 1);
        due.is(x.tear(2), FINDING);
        due.is(x.findings(NOTHING), 4);
    }

    private static void told() {
        due.says(10, "Of a PART: what = 0 its KIND, 1 PHASES (of others than PHASED 1), 2 its TIME, 3 its THREAD, 4 places of a DELAY's ROW (NONE: no ROW, no DELAY). BAD.");
        EvenFlow x = new EvenFlow();
        for (int kind = 0; kind <= 5; kind++) {
            x.part(kind, 9, 4);
            due.is(x.told(kind, 0), kind);
            due.is(x.told(kind, 1), kind == PHASED ? 4 : 1);
            due.is(x.told(kind, 2), 1);
            due.is(x.told(kind, 3), 0);
            due.is(x.told(kind, 4), kind == DELAY ? 4 : NONE);
            due.is(x.told(kind, 5), BAD);
            due.is(x.told(kind, -1), BAD);
            due.is(x.told(kind + 1, 0), BAD);
        }
        due.is(x.told(-1, 0), BAD);
        due.is(x.told(6, 4), BAD);
        due.is(x.told(0, MOST), BAD);
        x.time(3, 1000);
        x.deal(3, 3);
        due.is(x.told(3, 2), 1000);
        due.is(x.told(3, 3), 3);
        due.is(x.told(2, 2), 1);
        due.is(x.told(4, 3), 0);
        x.tear(DELAY);
        due.is(x.told(DELAY, 4), NONE);
        x.part(DELAY, 0, 0);
        due.is(x.told(6, 4), 0);
    }

    private static void is() {
        due.says(11, "Whether the KIND of a PART is, or is under, a KIND: 1, 0. BAD.");
        EvenFlow x = new EvenFlow();
        due.is(x.is(0, 0), BAD);
        for (int kind = 0; kind <= 5; kind++) {
            x.part(kind, 0, 1);
            due.is(x.is(kind, kind), 1);
            due.is(x.is(kind, FIXED), 1);
            due.is(x.is(kind, -1), BAD);
            due.is(x.is(kind, 6), BAD);
            due.is(x.is(kind + 1, 0), BAD);
        }
        due.is(x.is(-1, 0), BAD);
        due.is(x.is(KEEPER, SCALED), 1);
        due.is(x.is(SHARE, SCALED), 1);
        // Not the other way round, nor beside one another.
        due.is(x.is(FIXED, SCALED), 0);
        due.is(x.is(SCALED, KEEPER), 0);
        due.is(x.is(KEEPER, SHARE), 0);
        due.is(x.is(SHARE, KEEPER), 0);
        due.is(x.is(PHASED, SCALED), 0);
        due.is(x.is(DELAY, SCALED), 0);
        due.is(x.is(DELAY, PHASED), 0);
    }

    private static void ends() {
        due.says(12, "Of a LINE: what = 0, 1 its PARTS, 2, 3 COUNTS of PHASE 0 (giving, taking), 4 FIRST THINGS. BAD.");
        EvenFlow x = Flows.one(PHASED, 0, 2);
        x.part(FIXED, 0, 0);
        due.is(x.ends(0, 0), BAD);
        x.line(0, 50, 1, 49);
        x.line(1, 3, 0, 4);
        due.is(x.ends(0, -1), BAD);
        due.is(x.ends(0, 5), BAD);
        due.is(x.ends(2, 0), BAD);
        due.is(x.ends(-1, 0), BAD);
        due.is(x.ends(MOST, 0), BAD);
        x.first(0, 60);
        x.count(0, false, 0, 0);
        x.count(1, true, 1, 9);
        long[] all = new long[10];
        for (int what = 0; what < 5; what++) {
            all[what] = x.ends(0, what);
            all[5 + what] = x.ends(1, what);
        }
        due.are(all, 0, 1, 0, 49, 60, 1, 0, 3, 4, 0);
        // PHASE 0, whatever the PHASE is, and FIRST THINGS, whatever is on the LINE.
        x.fire(0);
        x.fire(0);
        x.fire(1);
        due.is(x.ends(0, 2), 0);
        due.is(x.ends(0, 4), 60);
    }
}
