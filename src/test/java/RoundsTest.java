/** Promises 13 to 27. */
public final class RoundsTest {
    private static final int BAD = EvenFlow.BAD, FULL = EvenFlow.FULL, FINDING = EvenFlow.FINDING, STATE = EvenFlow.STATE;
    private static final int SPENT = EvenFlow.SPENT, NONE = EvenFlow.NONE;
    private static final int CAST = 3;
    private static final int FIXED = 0, PHASED = 4;
    private static final Due due = new Due();

    public static void main(String[] args) {
        round();
        spentByFirings();
        spentByLines();
        firings();
        uneven();
        unevenByPhases();
        stuck();
        lacks();
        schedule();
        schedulePhases();
        refusedAsSchedule();
        least();
        leastRefused();
        tries();
        once();
        onceRefused();
        bracket();
        firing();
        store();
        marking();
        draft();
        check();
        due.end();
    }

    private static void round() {
        due.promise(13);
        EvenFlow x = new EvenFlow();
        due.is(x.round(), STATE);
        x.part(FIXED, 0, 0);
        due.is(x.round(), 1);
        x.part(PHASED, 0, 3);
        due.is(x.round(), 4);
        x.line(1, 2, 0, 3);
        due.is(x.round(), 3 + 2);
        due.is(Flows.chain(2, 3, 1, 2).round(), 6);
        due.is(Flows.chain(6, 4).round(), 5);
        due.is(Flows.uneven().round(), NONE);
        due.is(Flows.spent().round(), SPENT);
        EvenFlow apart = Flows.parts(4);
        apart.line(0, 1, 1, 7);
        apart.line(2, 1, 3, 5);
        due.is(apart.round(), 8 + 6);
    }

    private static void spentByFirings() {
        due.promise(13);
        due.is(Flows.chain(50, 1, 20, 1).round(), 1051);
        due.is(Flows.chain(1, 20, 1, 50).round(), 1051);
        due.is(Flows.chain(7, 1, 11, 1, 13, 1).round(), SPENT);
        due.is(Flows.chain(1, 7, 1, 11, 1, 13).round(), SPENT);
        EvenFlow x = Flows.chain(25, 1, 40, 1);
        x.part(FIXED, 0, 0);
        x.line(1, 38, 3, 1);
        x.part(FIXED, 0, 0);
        x.line(0, 24, 4, 1);
        due.is(x.round(), 2000);
        due.is(x.schedule(0), 25 + 1000 + 950 + 24);
        due.is(x.many(3), 2000);
        x.part(FIXED, 0, 0);
        due.is(x.round(), SPENT);
        due.is(x.uneven(), NONE);
        EvenFlow phased = Flows.chain(50, 1);
        phased.part(PHASED, 0, 4);
        phased.line(1, 40, 2, 2);
        due.is(phased.firings(2), 1000);
        phased.part(FIXED, 0, 0);
        phased.line(3, 2, 0, 1);
        due.is(phased.round(), SPENT);
    }

    private static void spentByLines() {
        due.promise(13);
        EvenFlow x = Flows.chain(50, 1, 50, 1, 50, 1, 8, 1);
        due.is(x.round(), SPENT);
        x.line(0, 1, 0, 2);
        due.is(x.round(), NONE);
        due.is(x.uneven(), 4);
        EvenFlow y = Flows.chain(50, 1, 50, 1, 50, 1, 9, 1);
        y.line(0, 1, 0, 2);
        due.is(y.round(), SPENT);
        due.is(y.uneven(), NONE);
        due.is(y.firings(0), SPENT);
        due.is(y.stuck(), SPENT);
        EvenFlow z = Flows.parts(5);
        z.line(0, 1, 0, 2);
        z.line(0, 50, 1, 1);
        z.line(1, 50, 2, 1);
        z.line(2, 50, 3, 1);
        z.line(3, 50, 4, 1);
        due.is(z.round(), NONE);
        due.is(z.uneven(), 0);
        EvenFlow back = Flows.chain(1, 50, 1, 50, 1, 50, 1, 8);
        back.line(0, 1, 0, 2);
        due.is(back.uneven(), 4);
        EvenFlow further = Flows.chain(1, 50, 1, 50, 1, 50, 1, 9);
        further.line(0, 1, 0, 2);
        due.is(further.uneven(), NONE);
        due.is(further.round(), SPENT);
        rowsNotFirings();
        farApart();
    }

    /** The proportion is that of rows of PHASES: 4000000 FIRINGS to 1 are 1000000 rows to 1. */
    private static void rowsNotFirings() {
        EvenFlow x = Flows.chain(50, 1, 50, 1, 50, 1);
        x.part(PHASED, 0, 4);
        x.line(3, 32, 4, 1);
        x.line(0, 1, 0, 2);
        due.is(x.uneven(), 4);
    }

    /** Two PARTS that only a LINE between others ties. */
    private static void farApart() {
        EvenFlow x = Flows.parts(6);
        x.line(0, 50, 1, 1);
        x.line(1, 50, 2, 1);
        x.line(3, 50, 4, 1);
        x.line(4, 50, 5, 1);
        x.line(2, 1, 3, 1);
        x.line(0, 1, 0, 2);
        due.is(x.round(), SPENT);
        due.is(x.uneven(), NONE);
    }

    private static void firings() {
        due.promise(14);
        EvenFlow x = Flows.chain(2, 3, 1, 2);
        due.is(x.firings(0), 3);
        due.is(x.firings(1), 2);
        due.is(x.firings(2), 1);
        due.is(x.firings(3), BAD);
        due.is(x.firings(-1), BAD);
        due.is(new EvenFlow().firings(0), BAD);
        due.is(Flows.uneven().firings(0), NONE);
        due.is(Flows.uneven().firings(2), BAD);
        due.is(Flows.spent().firings(0), SPENT);
    }

    private static void uneven() {
        due.promise(15);
        due.is(new EvenFlow().uneven(), STATE);
        due.is(Flows.chain(2, 3).uneven(), NONE);
        due.is(Flows.uneven().uneven(), 1);
        EvenFlow x = Flows.chain(2, 3, 1, 2);
        x.line(2, 3, 0, 1);
        due.is(x.uneven(), NONE);
        x.line(2, 1, 0, 3);
        x.line(0, 9, 2, 1);
        due.is(x.uneven(), 3);
        EvenFlow self = Flows.parts(1);
        self.line(0, 2, 0, 2);
        due.is(self.uneven(), NONE);
        self.line(0, 2, 0, 3);
        due.is(self.uneven(), 1);
    }

    private static void unevenByPhases() {
        due.promise(15);
        EvenFlow x = new EvenFlow();
        x.part(PHASED, 0, 2);
        x.part(FIXED, 0, 0);
        x.part(PHASED, 0, 2);
        x.line(0, 1, 1, 1);
        x.line(0, 5, 1, 1);
        due.is(x.uneven(), 1);
        x.count(1, false, 0, 0);
        x.count(1, false, 1, 2);
        due.is(x.uneven(), NONE);
        due.is(x.firings(0), 2);
        due.is(x.firings(1), 2);
        x.count(1, false, 1, 0);
        due.is(x.uneven(), 1);
        x.line(0, 1, 2, 1);
        due.is(x.uneven(), 1);
        x.count(1, false, 1, 2);
        for (int phase = 0; phase < 2; phase++) {
            x.count(2, false, phase, 0);
            x.count(2, true, phase, 0);
        }
        due.is(x.uneven(), NONE);
        due.is(x.round(), 2 + 2 + 2);
        x.count(2, true, 1, 1);
        due.is(x.uneven(), 2);
        EvenFlow self = new EvenFlow();
        self.part(PHASED, 0, 2);
        self.line(0, 1, 0, 1);
        self.count(0, false, 0, 2);
        due.is(self.uneven(), 0);
        self.count(0, true, 1, 2);
        due.is(self.uneven(), NONE);
    }

    private static void stuck() {
        due.promise(16);
        due.is(new EvenFlow().stuck(), STATE);
        due.is(Flows.uneven().stuck(), STATE);
        due.is(Flows.spent().stuck(), SPENT);
        due.is(Flows.chain(2, 3).stuck(), 0);
        EvenFlow x = Flows.sticking();
        due.is(x.stuck(), 1);
        x.first(0, 1);
        due.is(x.stuck(), 0);
        EvenFlow self = Flows.parts(1);
        self.line(0, 3, 0, 3);
        self.first(0, 2);
        due.is(self.stuck(), 1);
        self.first(0, 3);
        due.is(self.stuck(), 0);
    }

    private static void lacks() {
        due.promise(17);
        due.is(new EvenFlow().lacks(0), BAD);
        due.is(Flows.uneven().lacks(2), BAD);
        due.is(Flows.uneven().lacks(0), STATE);
        due.is(Flows.spent().lacks(0), SPENT);
        due.is(Flows.chain(2, 3).lacks(0), 0);
        EvenFlow x = Flows.sticking();
        due.is(x.lacks(0), 0);
        due.is(x.lacks(1), 1);
        x.first(1, 1);
        due.is(x.lacks(1), 0);
        // PART 0 gets a thing first, which it does not need once PARTS 1 and 2 go.
        EvenFlow y = Flows.parts(3);
        y.line(1, 1, 0, 1);
        y.line(2, 1, 1, 1);
        y.line(1, 1, 2, 1);
        due.is(y.stuck(), 1);
        due.is(y.lacks(0), 0);
        due.is(y.lacks(1), 1);
        due.is(y.lacks(2), 0);
        // Of two LINES that could lose it is the first that does.
        EvenFlow z = Flows.parts(2);
        z.line(1, 2, 0, 2);
        z.line(0, 3, 0, 3);
        z.line(0, 2, 1, 2);
        z.first(1, 1);
        due.is(z.lacks(0), 2);
        due.is(z.lacks(1), 2);
        due.is(z.lacks(2), 0);
        due.is(z.lacks(3), BAD);
        // It does not give the LINE anything.
        due.is(z.ends(0, 4), 0);
        due.is(z.stuck(), 1);
        // 50 FIRINGS of PART 0 that wait for PART 1, which waits for all of them.
        EvenFlow w = Flows.parts(2);
        w.line(1, 50, 0, 1);
        w.line(0, 1, 1, 50);
        due.is(w.lacks(0), 50);
        due.is(w.lacks(1), 0);
    }

    private static void schedule() {
        due.promise(18);
        EvenFlow x = Flows.chain(2, 3, 1, 2);
        due.is(x.schedule(-1), BAD);
        due.is(x.schedule(3), BAD);
        due.is(x.schedule(0), 6 + 2);
        due.are(Flows.latest(x), 0, 0, 0, 1, 1, 2);
        due.is(x.schedule(1), 4 + 2);
        due.are(Flows.latest(x), 0, 0, 1, 0, 1, 2);
        EvenFlow y = Flows.chain(1, 2);
        y.part(FIXED, 0, 0);
        due.is(y.schedule(0), 2);
        due.are(Flows.latest(y), 0, 0, 1, 2);
        due.is(y.schedule(1), 2);
        due.are(Flows.latest(y), 2, 0, 0, 1);
        due.is(y.schedule(2), 2);
        due.are(Flows.latest(y), 0, 2, 0, 1);
        EvenFlow z = new EvenFlow();
        z.part(PHASED, 0, 2);
        z.part(PHASED, 0, 2);
        due.is(z.schedule(0), 0);
        due.are(Flows.latest(z), 0, 0, 1, 1);
        due.is(z.schedule(1), 0);
        due.are(Flows.latest(z), 0, 0, 1, 1);
        due.is(z.schedule(2), 0);
        due.are(Flows.latest(z), 0, 1, 0, 1);
        // What a LINE has at first counts, and a PART's own LINE does not grow in between.
        EvenFlow self = Flows.parts(1);
        self.line(0, 5, 0, 5);
        self.first(0, 7);
        due.is(self.schedule(0), 7);
        // FIRINGS by fire() and SCHEDULES are two things.
        self.fire(0);
        due.is(self.schedule(0), 7);
        due.is(self.many(2), 1);
    }

    private static void schedulePhases() {
        due.promise(18);
        // PART 0 gives 1, 0, 4 things, round and round; PART 1 takes 2.
        EvenFlow x = new EvenFlow();
        x.part(PHASED, 0, 3);
        x.part(FIXED, 0, 0);
        x.line(0, 1, 1, 2);
        x.count(0, false, 1, 0);
        x.count(0, false, 2, 4);
        due.is(x.schedule(0), 10);
        due.are(Flows.latest(x), 0, 0, 0, 0, 0, 0, 1, 1, 1, 1, 1);
        due.is(x.schedule(1), 5);
        due.are(Flows.latest(x), 0, 0, 0, 1, 1, 0, 1, 0, 0, 1, 1);
        due.is(x.schedule(2), 5);
        due.are(Flows.latest(x), 0, 0, 0, 1, 0, 1, 0, 1, 0, 1, 1);
        // A second time it begins with PHASE 0 again, also where it stopped in another one.
        for (int p : new int[] {0, 0, 0, 1, 1, 0, 1, 0, 1}) {
            x.draft(p);
        }
        due.is(x.check(), -18);
        due.is(x.schedule(0), 10);
    }

    private static void refusedAsSchedule() {
        due.promise(18);
        due.is(new EvenFlow().schedule(3), BAD);
        due.is(new EvenFlow().schedule(0), STATE);
        due.is(Flows.uneven().schedule(0), STATE);
        due.is(Flows.spent().schedule(0), SPENT);
        due.is(Flows.sticking().schedule(0), STATE);
        EvenFlow x = Flows.chain(50, 1, 50, 1);
        x.line(0, 1, 0, 1);
        due.is(x.schedule(0), SPENT);
        x.line(0, 1, 0, 2);
        due.is(x.schedule(0), STATE);
        EvenFlow kept = Flows.chain(2, 3);
        kept.schedule(0);
        due.is(kept.schedule(9), BAD);
        due.is(kept.many(3), 5);
    }

    private static void least() {
        due.promise(19);
        EvenFlow x = Flows.chain(2, 3, 1, 2);
        due.is(x.least(0), BAD);
        due.is(x.least(20001), BAD);
        due.is(x.least(20000), 6);
        due.are(Flows.latest(x), 0, 0, 1, 0, 1, 2);
        // All SCHEDULES are equal: it is the first one, and what is tried behind it is left at once.
        EvenFlow y = Flows.parts(2);
        due.is(y.least(3), 0);
        due.are(Flows.latest(y), 0, 1);
        due.is(y.tries(), 3);
        due.is(y.least(2), SPENT);
        due.is(y.tries(), 2);
        due.are(Flows.latest(y), 0, 1);
        due.is(Flows.chain(40, 1).least(20000), STATE);
        due.is(Flows.chain(39, 1).least(20000), 39);
    }

    private static void leastRefused() {
        due.promise(19);
        due.is(new EvenFlow().least(0), BAD);
        due.is(new EvenFlow().least(1), STATE);
        due.is(Flows.uneven().least(1), STATE);
        due.is(Flows.spent().least(1), SPENT);
        due.is(Flows.sticking().least(1), STATE);
        due.is(Flows.parts(8).least(1), SPENT);
        due.is(Flows.parts(9).least(20000), STATE);
        EvenFlow x = Flows.parts(9);
        x.line(0, 50, 1, 1);
        x.line(1, 50, 2, 1);
        due.is(x.round(), SPENT);
        due.is(x.least(5), STATE);
        due.is(x.least(0), BAD);
        EvenFlow y = Flows.parts(2);
        y.schedule(0);
        due.is(y.least(1), SPENT);
        due.is(y.many(3), 2);
    }

    private static void tries() {
        due.promise(20);
        EvenFlow x = Flows.chain(2, 3, 1, 2);
        due.is(x.tries(), 0);
        x.least(0);
        due.is(x.tries(), 0);
        x.least(100);
        due.is(x.tries(), 10);
        due.is(x.least(10), 6);
        due.is(x.tries(), 10);
        due.is(x.least(9), SPENT);
        due.is(x.tries(), 9);
        x.least(20001);
        due.is(x.tries(), 9);
        x.line(2, 50, 2, 50);
        due.is(x.least(100), STATE);
        due.is(x.tries(), 9);
        x.first(2, 50);
        x.part(FIXED, 0, 0);
        x.line(2, 50, 3, 1);
        x.part(FIXED, 0, 0);
        x.line(3, 50, 4, 1);
        due.is(x.least(100), SPENT);
        due.is(x.tries(), 9);
    }

    private static void once() {
        due.promise(21);
        EvenFlow x = Flows.chain(2, 3, 2, 1);
        due.is(x.once(), 6 + 2);
        due.are(Flows.latest(x), 0, 0, 0, 1, 2, 2, 1, 2, 2);
        due.is(x.store(0), 6);
        due.is(x.store(1), 2);
        x.first(1, 5);
        due.is(x.once(), 6 + 2 + 5);
        due.is(x.store(1), 7);
        EvenFlow order = Flows.parts(3);
        order.line(2, 1, 0, 1);
        due.is(order.once(), 1);
        due.are(Flows.latest(order), 1, 2, 0);
        due.are(Flows.brackets(order, 4), -2, -3, -1, NONE);
        // A LINE that goes over others is in the widest row: its things are stored by that row's g.
        EvenFlow wide = Flows.chain(2, 1, 1, 1);
        wide.line(0, 2, 2, 1);
        due.is(wide.once(), 2 + 1 + 2);
        due.are(Flows.brackets(wide, 6), -1, 3, -2, -3, 0, NONE);
    }

    private static void onceRefused() {
        due.promise(21);
        due.is(new EvenFlow().once(), STATE);
        due.is(Flows.uneven().once(), STATE);
        due.is(Flows.spent().once(), SPENT);
        due.is(Flows.sticking().once(), NONE);
        EvenFlow self = Flows.parts(1);
        self.line(0, 1, 0, 1);
        due.is(self.once(), NONE);
        self.first(0, 1);
        due.is(self.once(), NONE);
        self.schedule(0);
        due.is(self.once(), NONE);
        due.is(self.many(3), 1);
        self.part(PHASED, 0, 1);
        due.is(self.once(), FINDING);
        due.is(self.finding(), CAST);
        due.is(self.findings(CAST), 1);
        self.line(0, 1, 0, 2);
        due.is(self.once(), STATE);
        due.is(self.findings(CAST), 1);
    }

    private static void bracket() {
        due.promise(22);
        EvenFlow x = Flows.chain(2, 3, 2, 1);
        due.is(x.bracket(0), NONE);
        x.schedule(0);
        due.is(x.bracket(0), NONE);
        x.once();
        due.are(Flows.brackets(x, 10), 4, -1, 0, 3, -2, 3, -3, 0, 0, NONE);
        due.is(x.bracket(-1), NONE);
        x.schedule(1);
        due.is(x.bracket(0), 4);
        EvenFlow many = Flows.parts(12);
        due.is(many.once(), 0);
        due.are(Flows.brackets(many, 13), -1, -2, -3, -4, -5, -6, -7, -8, -9, -10, -11, -12, NONE);
        shortestFirstHalf();
    }

    private static void shortestFirstHalf() {
        // Parted behind PART 0 it stores as much as behind PART 1, where PARTS 1 and 2 would not be done together.
        EvenFlow x = Flows.parts(3);
        x.line(0, 3, 2, 1);
        x.line(0, 3, 1, 1);
        due.is(x.once(), 6);
        due.are(Flows.brackets(x, 6), -1, 4, -2, -3, 0, NONE);
        // Parted behind PART 1, PARTS 0 and 1 would be done together twice, for the same sum.
        EvenFlow y = Flows.parts(3);
        y.line(1, 1, 2, 4);
        y.line(0, 1, 2, 6);
        due.is(y.once(), 10);
        due.are(Flows.brackets(y, 8), 7, -1, 0, 5, -2, 0, -3, NONE);
        // A row inside a row: 4, 2, 4 FIRINGS, twice half of each.
        EvenFlow z = Flows.chain(4, 1, 1, 2, 2, 1);
        due.is(z.once(), 4 + 2 + 2);
        due.are(Flows.brackets(z, 11), -1, 3, 3, -2, 0, -3, 3, -4, 0, 0, NONE);
    }

    private static void firing() {
        due.promise(23);
        EvenFlow x = Flows.chain(2, 3);
        due.is(x.firing(0), NONE);
        x.schedule(1);
        due.are(Flows.latest(x), 0, 0, 1, 0, 1);
        due.is(x.firing(5), NONE);
        due.is(x.firing(-1), NONE);
        due.is(x.firing(Integer.MAX_VALUE), NONE);
        x.once();
        due.are(Flows.latest(x), 0, 0, 0, 1, 1);
        x.least(1000);
        due.are(Flows.latest(x), 0, 0, 1, 0, 1);
        for (int p : new int[] {0, 0, 0, 1, 1}) {
            x.draft(p);
        }
        x.check();
        due.are(Flows.latest(x), 0, 0, 0, 1, 1);
        x.first(0, 0);
        due.is(x.firing(0), NONE);
    }

    private static void store() {
        due.promise(24);
        EvenFlow x = Flows.chain(2, 3, 1, 2);
        due.is(x.store(0), NONE);
        due.is(x.store(2), BAD);
        due.is(x.store(-1), BAD);
        x.schedule(0);
        due.is(x.store(0), 6);
        due.is(x.store(1), 2);
        due.is(x.store(2), BAD);
        x.least(100);
        due.is(x.store(0), 4);
        EvenFlow kept = Flows.chain(1, 1);
        kept.first(0, 9);
        kept.schedule(0);
        due.is(kept.store(0), 10);
        kept.schedule(1);
        due.is(kept.store(0), 9);
    }

    private static void marking() {
        due.promise(25);
        EvenFlow x = Flows.chain(2, 3, 1, 2);
        due.is(x.marking(0, 0), NONE);
        due.is(x.marking(0, 2), BAD);
        x.first(1, 1);
        x.schedule(0);
        due.are(Flows.latest(x), 0, 0, 0, 1, 1, 2);
        int[] onFirst = {0, 2, 4, 6, 3, 0, 0};
        int[] onSecond = {1, 1, 1, 1, 2, 3, 1};
        for (int i = 0; i <= 6; i++) {
            due.is(x.marking(i, 0), onFirst[i]);
            due.is(x.marking(i, 1), onSecond[i]);
        }
        due.is(x.marking(7, 0), NONE);
        due.is(x.marking(7, -1), BAD);
        due.is(x.marking(-1, 0), NONE);
        EvenFlow phased = new EvenFlow();
        phased.part(PHASED, 0, 3);
        phased.line(0, 1, 0, 1);
        phased.count(0, false, 1, 0);
        phased.count(0, true, 2, 0);
        phased.first(0, 1);
        phased.schedule(0);
        int[] on = {1, 1, 0, 1};
        for (int i = 0; i <= 3; i++) {
            due.is(phased.marking(i, 0), on[i]);
        }
    }

    private static void draft() {
        due.promise(26);
        EvenFlow x = Flows.chain(2, 3);
        due.is(x.draft(2), BAD);
        due.is(x.draft(-1), BAD);
        for (int n = 1; n <= 200; n++) {
            due.is(x.draft(1), n);
        }
        due.is(x.draft(1), FULL);
        due.is(x.draft(2), BAD);
        due.is(x.many(4), 200);
        x.part(FIXED, 0, 0);
        due.is(x.many(4), 200);
        due.is(x.check(), -10);
        due.is(x.many(4), 0);
        due.is(x.draft(2), 1);
    }

    private static void check() {
        due.promise(27);
        EvenFlow x = Flows.chain(2, 3, 1, 2);
        due.is(x.check(), -10);
        due.is(Flows.checked(x, 1), -10);
        due.is(Flows.checked(x, 0, 1), -11);
        due.is(Flows.checked(x, 0, 0, 0, 0), -13);
        due.is(Flows.checked(x, 0, 0, 0, 1, 1), -15);
        due.is(x.many(3), NONE);
        due.is(Flows.checked(x, 0, 0, 1, 0, 1, 2), 6);
        due.are(Flows.latest(x), 0, 0, 1, 0, 1, 2);
        due.is(Flows.checked(x, 0, 0, 1, 0, 1, 2, 0), -16);
        due.is(x.many(3), 6);
        due.is(x.store(0), 4);
        due.is(new EvenFlow().check(), STATE);
        EvenFlow bad = Flows.uneven();
        due.is(Flows.checked(bad, 0, 1), STATE);
        due.is(bad.many(4), 0);
        EvenFlow spent = Flows.spent();
        due.is(Flows.checked(spent, 0, 1), SPENT);
        due.is(spent.many(4), 0);
        due.is(Flows.checked(Flows.sticking(), 0), -10);
    }
}
