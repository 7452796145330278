/** The edges that promises 13 to 29 name, sentence by sentence. */
public final class RoundsEdgesTest {
    private static final int BAD = EvenFlow.BAD, FULL = EvenFlow.FULL, FINDING = EvenFlow.FINDING, STATE = EvenFlow.STATE;
    private static final int SPENT = EvenFlow.SPENT, NONE = EvenFlow.NONE;
    private static final int CAST = 3;
    private static final int FIXED = 0, PHASED = 4;
    private static final int LEAST = Integer.MIN_VALUE, MOST = Integer.MAX_VALUE;
    private static final Due due = new Due();

    public static void main(String[] args) {
        round();
        roundInOrder();
        firings();
        uneven();
        stuck();
        lacks();
        schedule();
        scheduleInOrder();
        least();
        leastState();
        leastInOrder();
        leastSpent();
        tries();
        once();
        onceRefused();
        bracket();
        bracketsNotWritten();
        bracketOfPartEight();
        firing();
        store();
        marking();
        draft();
        check();
        checkRefused();
        time();
        beat();
        beatRefused();
        due.end();
    }

    /** STUCK, with a ROUND of so many FIRINGS. */
    private static EvenFlow stuckWith(int firings) {
        EvenFlow x = Flows.chain(firings - 1, 1);
        x.line(0, 1, 0, 1);
        return x;
    }

    /** PHASED PARTS that no LINES tie: so many FIRINGS in all. */
    private static EvenFlow idle(int firings) {
        EvenFlow x = new EvenFlow();
        for (int left = firings; left > 0; left -= 4) {
            x.part(PHASED, 0, Math.min(4, left));
        }
        return x;
    }

    /** No PART has more than 1000 FIRINGS, all together have 2001. */
    private static EvenFlow tooManyInAll() {
        EvenFlow x = Flows.chain(50, 1, 20, 1);
        x.part(FIXED, 0, 0);
        x.line(1, 19, 3, 1);
        return x;
    }

    private static void round() {
        due.says(13, "How many FIRINGS A ROUND has; NONE: it is UNEVEN. STATE: no PARTS; SPENT.");
        EvenFlow x = new EvenFlow();
        due.is(x.round(), STATE);
        x.part(6, 0, 0);
        due.is(x.round(), STATE);
        x.part(FIXED, 0, 0);
        due.is(x.round(), 1);
        due.is(Flows.parts(12).round(), 12);
        due.is(idle(48).round(), 48);
        due.is(Flows.uneven().round(), NONE);
        due.is(Flows.spent().round(), SPENT);
        due.is(Flows.spentByLines().round(), SPENT);
        due.is(Flows.sticking().round(), 2);
        // It is told anew when the graph is another one.
        EvenFlow y = Flows.one(PHASED, 0, 2);
        y.line(0, 1, 0, 1);
        due.is(y.round(), 2);
        y.count(0, true, 0, 2);
        due.is(y.round(), NONE);
        y.count(0, false, 1, 2);
        due.is(y.round(), 2);
        y.line(0, 1, 0, 2);
        due.is(y.round(), NONE);
    }

    private static void roundInOrder() {
        due.says(13, "(Of SPENT and UNEVEN by LINES the one that comes first; SPENT by FIRINGS behind both.)");
        EvenFlow x = Flows.spentByLines();
        x.line(0, 1, 0, 2);
        due.is(x.round(), SPENT);
        EvenFlow y = Flows.parts(5);
        y.line(4, 1, 4, 2);
        for (int l = 0; l < 4; l++) {
            y.line(l, 50, l + 1, 1);
        }
        due.is(y.round(), NONE);
        EvenFlow z = Flows.spent();
        z.line(0, 1, 0, 2);
        due.is(z.round(), NONE);
        // More than 2000 in all, and UNEVEN at the last LINE.
        EvenFlow all = tooManyInAll();
        due.is(all.round(), SPENT);
        all.line(3, 1, 3, 2);
        due.is(all.round(), NONE);
        due.is(all.uneven(), 3);
        // What PARTS that nothing ties to the UNEVEN ones have does not come ahead of it.
        EvenFlow apart = Flows.spent();
        apart.part(FIXED, 0, 0);
        apart.line(3, 1, 3, 2);
        due.is(apart.round(), NONE);
    }

    private static void firings() {
        due.says(14, "How many FIRINGS of a PART A ROUND has. BAD; STATE; SPENT; NONE: it is UNEVEN.");
        EvenFlow x = Flows.chain(2, 3, 1, 2);
        due.are(new long[] {x.firings(0), x.firings(1), x.firings(2)}, 3, 2, 1);
        due.is(x.firings(3), BAD);
        due.is(x.firings(-1), BAD);
        due.is(x.firings(LEAST), BAD);
        due.is(x.firings(MOST), BAD);
        // No PART is there that could be asked for: it is BAD ahead of STATE.
        due.is(new EvenFlow().firings(0), BAD);
        due.is(Flows.spent().firings(0), SPENT);
        due.is(Flows.spent().firings(2), SPENT);
        due.is(Flows.spent().firings(3), BAD);
        due.is(Flows.spentByLines().firings(0), SPENT);
        due.is(Flows.uneven().firings(0), NONE);
        due.is(Flows.uneven().firings(2), BAD);
        // Also of a PART that has nothing to do with it.
        EvenFlow apart = Flows.uneven();
        apart.part(FIXED, 0, 0);
        due.is(apart.firings(2), NONE);
        due.is(Flows.sticking().firings(1), 1);
        EvenFlow most = Flows.chain(50, 1, 20, 1);
        due.is(most.firings(2), 1000);
    }

    private static void uneven() {
        due.says(15, "The LINE at which it is UNEVEN; NONE. STATE.");
        due.is(new EvenFlow().uneven(), STATE);
        due.is(Flows.parts(1).uneven(), NONE);
        due.is(Flows.uneven().uneven(), 1);
        due.is(Flows.sticking().uneven(), NONE);
        EvenFlow x = Flows.parts(2);
        for (int l = 0; l < 19; l++) {
            x.line(0, 1, 1, 1);
        }
        due.is(x.uneven(), NONE);
        x.line(0, 1, 1, 2);
        due.is(x.uneven(), 19);
        due.is(Flows.spent().uneven(), NONE);
    }

    private static void stuck() {
        due.says(16, "1: THE GRAPH is STUCK; 0. STATE: no PARTS, UNEVEN; SPENT.");
        due.is(new EvenFlow().stuck(), STATE);
        due.is(Flows.uneven().stuck(), STATE);
        due.is(Flows.spent().stuck(), SPENT);
        due.is(Flows.spentByLines().stuck(), SPENT);
        due.is(Flows.parts(1).stuck(), 0);
        due.is(Flows.sticking().stuck(), 1);
        EvenFlow x = Flows.sticking();
        x.first(1, 1);
        due.is(x.stuck(), 0);
        x.first(1, 0);
        due.is(x.stuck(), 1);
        // Both STUCK and SPENT, or UNEVEN, it is not: there is no ROUND.
        EvenFlow spent = Flows.spent();
        spent.line(0, 1, 0, 1);
        due.is(spent.stuck(), SPENT);
        EvenFlow uneven = Flows.sticking();
        uneven.line(0, 1, 0, 2);
        due.is(uneven.stuck(), STATE);
        // FIRINGS that were done do not change it.
        EvenFlow fired = Flows.chain(2, 1);
        fired.line(1, 1, 0, 2);
        fired.first(0, 1);
        due.is(fired.fire(1), 1);
        due.is(fired.stuck(), 1);
    }

    private static void lacks() {
        due.says(17, "WHAT LACKS on a LINE (0 when it is not STUCK). BAD; STATE: no PARTS, UNEVEN; SPENT.");
        due.is(new EvenFlow().lacks(0), BAD);
        due.is(Flows.parts(1).lacks(0), BAD);
        due.is(Flows.uneven().lacks(0), STATE);
        due.is(Flows.uneven().lacks(2), BAD);
        due.is(Flows.uneven().lacks(-1), BAD);
        due.is(Flows.spent().lacks(0), SPENT);
        due.is(Flows.spent().lacks(2), BAD);
        due.is(Flows.spentByLines().lacks(3), SPENT);
        EvenFlow x = Flows.sticking();
        due.is(x.lacks(2), BAD);
        due.is(x.lacks(0), 0);
        due.is(x.lacks(1), 1);
        due.is(x.lacks(1), 1);
        x.first(0, 1);
        due.is(x.lacks(0), 0);
        due.is(x.lacks(1), 0);
        x.first(0, 0);
        due.is(x.lacks(1), 1);
        // Nothing is given: it stays STUCK.
        due.is(x.things(1), 0);
        due.is(x.stuck(), 1);
        // More than FIRST THINGS can be.
        EvenFlow many = Flows.parts(2);
        many.line(1, 49, 0, 50);
        many.line(0, 50, 1, 49);
        due.are(new long[] {many.lacks(0), many.lacks(1)}, 50 + 49 - 1, 0);
    }

    private static void schedule() {
        due.says(18, "A SCHEDULE BY A RULE (0 .. 2): the sum of its STORES.");
        EvenFlow x = Flows.chain(2, 3, 1, 2);
        due.is(x.schedule(0), 8);
        due.is(x.schedule(1), 6);
        due.is(x.schedule(2), 6);
        due.is(x.schedule(-1), BAD);
        due.is(x.schedule(3), BAD);
        due.is(x.schedule(LEAST), BAD);
        due.is(x.schedule(MOST), BAD);
        due.is(Flows.parts(1).schedule(0), 0);
        due.is(Flows.chain(50, 1, 20, 1).schedule(0), 50 + 1000);
    }

    private static void scheduleInOrder() {
        due.says(18, "BAD; STATE: no PARTS, UNEVEN; SPENT; STATE: STUCK. (In this order; UNEVEN and SPENT by LINES as round() tells them.)");
        due.is(new EvenFlow().schedule(3), BAD);
        due.is(Flows.uneven().schedule(3), BAD);
        due.is(Flows.spent().schedule(-1), BAD);
        due.is(Flows.sticking().schedule(3), BAD);
        due.is(new EvenFlow().schedule(0), STATE);
        due.is(Flows.uneven().schedule(1), STATE);
        due.is(Flows.spent().schedule(2), SPENT);
        due.is(Flows.sticking().schedule(0), STATE);
        EvenFlow spent = Flows.spent();
        spent.line(0, 1, 0, 1);
        due.is(spent.schedule(0), SPENT);
        spent.line(0, 1, 0, 2);
        due.is(spent.schedule(0), STATE);
        EvenFlow lines = Flows.spentByLines();
        lines.line(0, 1, 0, 2);
        due.is(lines.schedule(0), SPENT);
        // What is refused leaves the latest one.
        EvenFlow kept = Flows.chain(2, 1);
        kept.schedule(0);
        due.is(kept.schedule(3), BAD);
        due.are(Flows.latest(kept), 0, 1, 1);
    }

    private static void least() {
        due.says(19, "THE LEAST, with n TRIES at most (1 .. 20000): the sum of its STORES.");
        EvenFlow x = Flows.parts(1);
        due.is(x.least(0), BAD);
        due.is(x.least(-1), BAD);
        due.is(x.least(LEAST), BAD);
        due.is(x.least(20001), BAD);
        due.is(x.least(MOST), BAD);
        due.is(x.least(1), 0);
        due.is(x.least(20000), 0);
        EvenFlow y = Flows.parts(8);
        due.is(y.least(36), 0);
        due.is(y.least(35), SPENT);
        EvenFlow z = Flows.chain(2, 3, 1, 2);
        due.is(z.least(10), 6);
        due.is(z.least(9), SPENT);
    }

    private static void leastState() {
        due.says(19, "BAD; STATE: as schedule(), or more than 8 PARTS, or more than 40 FIRINGS in A ROUND");
        due.is(new EvenFlow().least(1), STATE);
        due.is(Flows.uneven().least(1), STATE);
        due.is(Flows.sticking().least(1), STATE);
        due.is(Flows.parts(8).least(20000), 0);
        due.is(Flows.parts(9).least(20000), STATE);
        due.is(Flows.parts(12).least(20000), STATE);
        due.is(Flows.chain(39, 1).least(20000), 39);
        due.is(Flows.chain(40, 1).least(20000), STATE);
        // 40 FIRINGS, all at their depth.
        EvenFlow x = Flows.chain(13, 1);
        x.line(1, 2, 1, 2);
        x.first(1, 2);
        x.part(FIXED, 0, 0);
        x.line(0, 25, 2, 1);
        due.is(x.round(), 39);
        x.part(FIXED, 0, 0);
        due.is(x.round(), 40);
        due.is(x.least(20000), 13 + 2 + 25);
        due.is(x.many(3), 40);
        x.part(FIXED, 0, 0);
        due.is(x.least(20000), STATE);
        // The same when it is both: refused all the same, and BAD ahead.
        due.is(stuckWith(41).least(20000), STATE);
        due.is(stuckWith(41).least(20001), BAD);
        due.is(Flows.parts(9).least(1), STATE);
    }

    private static void leastInOrder() {
        due.says(19, "(more than 8 PARTS ahead of all, STUCK and the FIRINGS behind SPENT by A ROUND);");
        EvenFlow x = Flows.spent();
        due.is(x.least(1), SPENT);
        for (int p = 3; p < 8; p++) {
            x.part(FIXED, 0, 0);
            due.is(x.least(1), SPENT);
        }
        x.part(FIXED, 0, 0);
        due.is(x.least(1), STATE);
        due.is(tooManyInAll().least(1), SPENT);
        EvenFlow lines = Flows.spentByLines();
        lines.line(0, 1, 0, 2);
        due.is(lines.least(1), SPENT);
        EvenFlow stuck = Flows.spent();
        stuck.line(0, 1, 0, 1);
        due.is(stuck.least(1), SPENT);
        EvenFlow uneven = Flows.spent();
        uneven.line(0, 1, 0, 2);
        due.is(uneven.least(1), STATE);
        EvenFlow many = Flows.uneven();
        for (int p = 2; p < 9; p++) {
            many.part(FIXED, 0, 0);
        }
        due.is(many.least(1), STATE);
    }

    private static void leastSpent() {
        due.says(19, "SPENT: A ROUND, or it would take more TRIES.");
        due.is(Flows.spent().least(20000), SPENT);
        EvenFlow x = Flows.parts(2);
        due.is(x.least(1), SPENT);
        due.is(x.least(2), SPENT);
        due.is(x.many(3), NONE);
        due.is(x.least(3), 0);
        due.are(Flows.latest(x), 0, 1);
        // Two pairs of PARTS take nearly as many as may be asked for (as PlainFlow counts them, too), three take more.
        EvenFlow many = Flows.parts(4);
        many.line(0, 6, 1, 7);
        many.line(2, 6, 3, 7);
        due.is(many.least(12606), SPENT);
        due.is(many.least(12607), 24);
        due.is(many.tries(), 12607);
        many.part(FIXED, 0, 0);
        many.part(FIXED, 0, 0);
        many.line(4, 6, 5, 7);
        due.is(many.schedule(1), 36);
        due.is(many.least(20000), SPENT);
        due.is(many.many(3), 39);
        due.are(new long[] {many.store(0), many.store(1), many.store(2)}, 12, 12, 12);
    }

    private static void tries() {
        due.says(20, "How many TRIES the latest least() took that was not BAD, STATE, SPENT by A ROUND; 0 before.");
        EvenFlow x = new EvenFlow();
        due.is(x.tries(), 0);
        x.least(1);
        x.part(FIXED, 0, 0);
        x.least(0);
        due.is(x.tries(), 0);
        x.least(20000);
        due.is(x.tries(), 1);
        x.part(FIXED, 0, 0);
        due.is(x.tries(), 1);
        x.schedule(0);
        x.least(20000);
        due.is(x.tries(), 3);
        // BAD, STATE for each reason, SPENT by A ROUND leave it.
        x.least(20001);
        due.is(x.tries(), 3);
        x.line(0, 1, 0, 1);
        due.is(x.least(20000), STATE);
        due.is(x.tries(), 3);
        x.first(0, 1);
        x.line(0, 40, 1, 1);
        due.is(x.least(20000), STATE);
        due.is(x.tries(), 3);
        x.part(FIXED, 0, 0);
        x.line(1, 50, 2, 1);
        due.is(x.least(20000), SPENT);
        due.is(x.tries(), 3);
        x.line(0, 1, 0, 2);
        due.is(x.least(20000), STATE);
        due.is(x.tries(), 3);
        for (int p = 3; p < 9; p++) {
            x.part(FIXED, 0, 0);
        }
        due.is(x.least(20000), STATE);
        due.is(x.tries(), 3);
        // SPENT by TRIES tells what it took, and a later one tells its own.
        EvenFlow y = Flows.parts(3);
        y.least(20000);
        due.is(y.tries(), 6);
        due.is(y.least(4), SPENT);
        due.is(y.tries(), 4);
        due.is(y.least(6), 0);
        due.is(y.tries(), 6);
    }

    private static void once() {
        due.says(21, "ONCE: the sum of its STORES; the SCHEDULE is that.");
        EvenFlow x = Flows.chain(2, 3, 2, 1);
        x.schedule(1);
        due.is(x.once(), 6 + 2);
        due.are(Flows.latest(x), 0, 0, 0, 1, 2, 2, 1, 2, 2);
        due.are(new long[] {x.store(0), x.store(1)}, 6, 2);
        due.is(x.many(3), 9);
        due.is(Flows.parts(1).once(), 0);
        due.is(Flows.parts(12).once(), 0);
        EvenFlow most = Flows.chain(50, 1, 20, 1);
        due.is(most.once(), 50 + 20);
        due.is(most.many(3), 1051);
        // More than 8 PARTS, more than 40 or 60 FIRINGS are no hindrance.
        EvenFlow long12 = Flows.chain(1, 1, 1, 1, 1, 1, 1, 1, 1, 1, 1, 1, 1, 1, 1, 1, 1, 1, 1, 1, 1, 1);
        due.is(long12.once(), 11);
    }

    private static void onceRefused() {
        due.says(21, "BAD: none; STATE: as schedule() but STUCK; SPENT; CAST: a PHASED PART is there; NONE: there is a ring.");
        due.is(new EvenFlow().once(), STATE);
        due.is(Flows.uneven().once(), STATE);
        due.is(Flows.spent().once(), SPENT);
        due.is(Flows.spentByLines().once(), SPENT);
        due.is(Flows.sticking().once(), NONE);
        due.is(Flows.ring(0).once(), NONE);
        due.is(Flows.ring(1).once(), NONE);
        EvenFlow phased = Flows.parts(2);
        phased.schedule(0);
        phased.part(PHASED, 0, 1);
        due.is(phased.once(), FINDING);
        due.is(phased.finding(), CAST);
        due.is(phased.findings(CAST), 1);
        EvenFlow ring = Flows.sticking();
        ring.part(PHASED, 0, 2);
        due.is(ring.once(), FINDING);
        EvenFlow uneven = Flows.uneven();
        uneven.part(PHASED, 0, 1);
        due.is(uneven.once(), STATE);
        EvenFlow spent = Flows.spent();
        spent.part(PHASED, 0, 1);
        due.is(spent.once(), SPENT);
        EvenFlow spentRing = Flows.spent();
        spentRing.line(0, 1, 0, 1);
        due.is(spentRing.once(), SPENT);
        // A ring leaves the latest SCHEDULE.
        EvenFlow kept = Flows.ring(1, 0);
        kept.schedule(0);
        due.is(kept.once(), NONE);
        due.are(Flows.latest(kept), 1, 0);
    }

    private static void bracket() {
        due.says(22, "Of ONCE (the latest once() that was done), written down: item i: n + 1 (of n above 0): what follows up to its end n times; 0: such an end; - 1 - p: PART p fires once.");
        EvenFlow x = Flows.chain(2, 3, 2, 1);
        due.is(x.bracket(0), NONE);
        x.schedule(0);
        x.least(20000);
        due.is(x.bracket(0), NONE);
        x.once();
        long[] all = {4, -1, 0, 3, -2, 3, -3, 0, 0, NONE};
        due.are(Flows.brackets(x, 10), all);
        x.schedule(1);
        x.least(20000);
        Flows.checked(x, 0);
        due.are(Flows.brackets(x, 10), all);
        x.once();
        due.are(Flows.brackets(x, 10), all);
        EvenFlow most = Flows.chain(1, 20, 1, 50);
        most.once();
        due.are(Flows.brackets(most, 9), 51, 21, -1, 0, -2, 0, -3, NONE, NONE);
        due.says(22, "NONE: none such.");
        due.is(x.bracket(-1), NONE);
        due.is(x.bracket(9), NONE);
        due.is(x.bracket(LEAST), NONE);
        due.is(x.bracket(MOST), NONE);
        // Refused, or a ring: ONCE is still the one that was done.
        EvenFlow ring = Flows.ring(1);
        ring.once();
        due.is(ring.bracket(0), NONE);
        x.first(0, 0);
        due.is(x.bracket(0), NONE);
    }

    private static void bracketsNotWritten() {
        due.says(22, "Rows of one PART that has n FIRINGS in it: n times, the PART, the end; brackets with 1 time are not written, nor rows of one FIRING.");
        EvenFlow x = Flows.chain(1, 1, 1, 2);
        due.is(x.once(), 1 + 2);
        due.are(Flows.brackets(x, 6), 3, -1, -2, 0, -3, NONE);
        EvenFlow y = Flows.chain(2, 1);
        y.once();
        due.are(Flows.brackets(y, 5), -1, 3, -2, 0, NONE);
        EvenFlow z = Flows.chain(1, 1, 1, 1);
        z.once();
        due.are(Flows.brackets(z, 4), -1, -2, -3, NONE);
    }

    private static void bracketOfPartEight() {
        due.says(22, "(PART 8 tells -9, as NONE does: of nine PARTS or more the first -9 is PART 8, since each PART stands once, the next one is NONE.)");
        EvenFlow x = Flows.parts(9);
        x.once();
        due.are(Flows.brackets(x, 11), -1, -2, -3, -4, -5, -6, -7, -8, -9, NONE, NONE);
        EvenFlow y = Flows.parts(12);
        y.line(8, 2, 0, 1);
        y.once();
        due.are(Flows.brackets(y, 16), -2, -3, -4, -5, -6, -7, -8, -9, 3, -1, 0, -10, -11, -12, NONE, NONE);
    }

    private static void firing() {
        due.says(23, "FIRING i of the latest SCHEDULE (schedule(), least(), once(), check()): its PART; NONE: none such.");
        EvenFlow x = Flows.chain(2, 3);
        due.is(x.firing(0), NONE);
        due.is(x.schedule(1), 4);
        due.are(Flows.latest(x), 0, 0, 1, 0, 1);
        due.is(x.firing(4), 1);
        due.is(x.firing(5), NONE);
        due.is(x.firing(-1), NONE);
        due.is(x.firing(LEAST), NONE);
        due.is(x.firing(MOST), NONE);
        x.once();
        due.are(Flows.latest(x), 0, 0, 0, 1, 1);
        x.least(20000);
        due.are(Flows.latest(x), 0, 0, 1, 0, 1);
        due.is(Flows.checked(x, 0, 0, 0, 1, 1), 6);
        due.are(Flows.latest(x), 0, 0, 0, 1, 1);
        x.schedule(2);
        due.are(Flows.latest(x), 0, 0, 1, 0, 1);
        x.line(0, 2, 1, 3);
        due.is(x.firing(0), NONE);
        EvenFlow most = Flows.chain(50, 1, 20, 1);
        most.schedule(0);
        due.is(most.firing(1050), 2);
        due.is(most.firing(1051), NONE);
    }

    private static void store() {
        due.says(24, "The STORE of the latest SCHEDULE on a LINE; NONE: no SCHEDULE. BAD.");
        EvenFlow x = Flows.chain(2, 3, 1, 2);
        due.is(x.store(0), NONE);
        due.is(x.store(2), BAD);
        due.is(x.store(-1), BAD);
        due.is(x.store(MOST), BAD);
        x.schedule(0);
        due.are(new long[] {x.store(0), x.store(1), x.store(2)}, 6, 2, BAD);
        x.least(20000);
        due.are(new long[] {x.store(0), x.store(1)}, 4, 2);
        // What is not done leaves them.
        Flows.checked(x, 0, 0, 0, 1, 1);
        x.least(1);
        due.are(new long[] {x.store(0), x.store(1)}, 4, 2);
        due.is(Flows.checked(x, 0, 0, 0, 1, 1, 2), 8);
        due.is(x.store(0), 6);
        x.first(1, 0);
        due.is(x.store(0), NONE);
        EvenFlow most = Flows.chain(50, 1, 20, 1);
        most.first(0, 60);
        most.schedule(0);
        due.are(new long[] {most.store(0), most.store(1)}, 110, 1000);
    }

    private static void marking() {
        due.says(25, "How many things are on a LINE behind the first i FIRINGS of the latest SCHEDULE; NONE: it has not so many, or is none. BAD.");
        EvenFlow x = Flows.chain(2, 3);
        x.first(0, 1);
        due.is(x.marking(0, 0), NONE);
        due.is(x.marking(0, 1), BAD);
        due.is(x.marking(9, -1), BAD);
        x.schedule(1);
        due.are(Flows.latest(x), 0, 1, 0, 0, 1);
        long[] on = new long[7];
        for (int i = 0; i < 7; i++) {
            on[i] = x.marking(i, 0);
        }
        due.are(on, 1, 3, 0, 2, 4, 1, NONE);
        due.is(x.marking(MOST, 0), NONE);
        due.is(x.marking(0, 1), BAD);
        due.is(x.marking(0, MOST), BAD);
        due.is(x.marking(6, 1), BAD);
        // FIRINGS that were done are no part of it.
        x.fire(0);
        due.is(x.marking(0, 0), 1);
        // PHASES at both ends: 3, 0, 2, 1 things given, 1, 4, 1 taken.
        EvenFlow y = Flows.one(PHASED, 0, 4);
        y.part(PHASED, 0, 3);
        y.line(0, 3, 1, 1);
        y.count(0, false, 1, 0);
        y.count(0, false, 2, 2);
        y.count(0, false, 3, 1);
        y.count(0, true, 1, 4);
        due.is(Flows.checked(y, 0, 0, 1, 0, 1, 0, 1), 4);
        long[] phased = new long[9];
        for (int i = 0; i < 9; i++) {
            phased[i] = y.marking(i, 0);
        }
        due.are(phased, 0, 3, 3, 2, 4, 0, 1, 0, NONE);
        x.first(0, 1);
        due.is(x.marking(0, 0), NONE);
    }

    private static void draft() {
        due.says(26, "A PART comes behind THE DRAFT: how many it has. BAD; FULL: 200.");
        EvenFlow x = Flows.parts(2);
        due.is(x.draft(2), BAD);
        due.is(x.draft(-1), BAD);
        due.is(x.draft(MOST), BAD);
        due.is(x.many(4), 0);
        for (int n = 1; n <= 200; n++) {
            due.is(x.draft(n % 2), n);
        }
        due.is(x.draft(0), FULL);
        due.is(x.draft(2), BAD);
        due.is(x.many(4), 200);
        due.is(x.check(), -12);
        due.is(x.draft(0), 1);
        due.is(new EvenFlow().draft(0), BAD);
        // 200 are enough for a SCHEDULE, if it has so many.
        EvenFlow full = Flows.chain(50, 1);
        full.part(FIXED, 0, 0);
        full.part(FIXED, 0, 0);
        full.line(0, 50, 2, 1);
        full.line(0, 50, 3, 1);
        full.part(FIXED, 0, 0);
        full.line(0, 48, 4, 1);
        full.part(FIXED, 0, 0);
        due.is(full.round(), 200);
        full.schedule(0);
        long[] row = Flows.latest(full);
        for (int i = 0; i < 200; i++) {
            full.draft((int) row[i]);
        }
        due.is(full.draft(0), FULL);
        due.is(full.check(), 198);
    }

    private static void check() {
        due.says(27, "THE DRAFT, which is empty then, is a SCHEDULE: the sum of its STORES (it is the latest one then);");
        EvenFlow x = Flows.chain(2, 3, 1, 2);
        due.is(Flows.checked(x, 0, 0, 1, 0, 1, 2), 6);
        due.are(Flows.latest(x), 0, 0, 1, 0, 1, 2);
        due.is(x.many(4), 0);
        due.is(x.store(0), 4);
        due.says(27, "- 10 less the place of the first FIRING that is none of a PART that MAY FIRE, or that has none left (its length, if some are left at the end).");
        due.is(x.check(), -10);
        due.is(Flows.checked(x, 1, 0), -10);
        due.is(Flows.checked(x, 0, 1, 1), -11);
        due.is(Flows.checked(x, 0, 0, 1, 2, 0), -13);
        due.is(Flows.checked(x, 0, 0, 0, 0, 1), -13);
        due.is(Flows.checked(x, 0, 0, 0, 1, 1), -15);
        due.is(Flows.checked(x, 0, 0, 1, 0, 1, 2, 0), -16);
        due.is(Flows.checked(x, 0, 0, 1, 0, 1, 2, 2), -16);
        due.is(x.many(4), 0);
        // The latest SCHEDULE stays.
        due.are(Flows.latest(x), 0, 0, 1, 0, 1, 2);
        due.is(Flows.checked(Flows.sticking(), 0), -10);
        due.is(Flows.checked(Flows.sticking()), -10);
        // A PHASE takes another COUNT: the second FIRING may.
        EvenFlow phased = Flows.one(PHASED, 0, 2);
        phased.part(FIXED, 0, 0);
        phased.line(1, 2, 0, 1);
        phased.count(0, true, 0, 2);
        phased.count(0, true, 1, 0);
        due.is(Flows.checked(phased, 1, 0, 0), 2);
        due.is(Flows.checked(phased, 1, 0, 1), -12);
        due.is(Flows.checked(phased, 0, 1, 0), -10);
        EvenFlow far = Flows.parts(1);
        for (int i = 0; i < 200; i++) {
            far.draft(0);
        }
        due.is(far.check(), -11);
    }

    private static void checkRefused() {
        due.says(27, "STATE: no PARTS, UNEVEN; SPENT. (It is empty then, too.)");
        due.is(new EvenFlow().check(), STATE);
        EvenFlow uneven = Flows.uneven();
        due.is(Flows.checked(uneven, 0, 1), STATE);
        due.is(uneven.many(4), 0);
        EvenFlow spent = Flows.spent();
        due.is(Flows.checked(spent, 0, 1), SPENT);
        due.is(spent.many(4), 0);
        due.is(spent.draft(2), 1);
        EvenFlow lines = Flows.spentByLines();
        lines.line(0, 1, 0, 2);
        due.is(Flows.checked(lines, 0), SPENT);
        due.is(lines.many(4), 0);
    }

    private static void time() {
        due.says(28, "The TIME of a PART: what it was. BAD.");
        EvenFlow x = Flows.parts(2);
        due.is(x.time(2, 1), BAD);
        due.is(x.time(-1, 1), BAD);
        due.is(x.time(0, -1), BAD);
        due.is(x.time(0, 1001), BAD);
        due.is(x.time(0, LEAST), BAD);
        due.is(x.time(0, MOST), BAD);
        due.is(x.told(0, 2), 1);
        due.is(x.time(0, 1000), 1);
        due.is(x.time(0, 0), 1000);
        due.is(x.time(0, 0), 0);
        due.is(x.time(1, 5), 1);
        due.is(x.told(0, 2), 0);
        due.is(x.told(1, 2), 5);
        due.is(new EvenFlow().time(0, 1), BAD);
        // It is no change of the graph, but THE BEAT is another one.
        x.schedule(0);
        x.fire(0);
        due.is(x.beat(false), 5);
        x.time(0, 7);
        due.is(x.many(2), 1);
        due.is(x.many(3), 2);
        due.is(x.beat(false), 7);
    }

    private static void beat() {
        due.says(29, "THE BEAT times so many ROUNDS as it goes back (its upper number; below: its lower one).");
        EvenFlow x = Flows.ring(2, 0, 0);
        due.is(x.beat(false), 3);
        due.is(x.beat(true), 2);
        x.first(1, 1);
        due.is(x.beat(false), 1);
        due.is(x.beat(true), 1);
        x.time(1, 1000);
        due.is(x.beat(false), 1000);
        for (int p = 0; p < 3; p++) {
            x.time(p, 0);
        }
        due.is(x.beat(false), 0);
        due.is(x.beat(true), 1);
    }

    private static void beatRefused() {
        due.says(29, "STATE: as schedule(), or more than 60 FIRINGS in A ROUND; SPENT (ahead of STUCK and of these FIRINGS).");
        for (boolean below : new boolean[] {false, true}) {
            due.is(new EvenFlow().beat(below), STATE);
            due.is(Flows.uneven().beat(below), STATE);
            due.is(Flows.sticking().beat(below), STATE);
            due.is(Flows.spent().beat(below), SPENT);
            due.is(Flows.spentByLines().beat(below), SPENT);
            EvenFlow x = Flows.chain(50, 1);
            x.part(FIXED, 0, 0);
            x.line(0, 9, 2, 1);
            due.is(x.round(), 60);
            due.is(x.beat(below), below ? 1 : 50);
            x.part(FIXED, 0, 0);
            due.is(x.round(), 61);
            due.is(x.beat(below), STATE);
            due.is(stuckWith(51).beat(below), STATE);
            EvenFlow spent = Flows.spent();
            spent.line(0, 1, 0, 1);
            due.is(spent.beat(below), SPENT);
            due.is(tooManyInAll().beat(below), SPENT);
            EvenFlow uneven = Flows.spent();
            uneven.line(0, 1, 0, 2);
            due.is(uneven.beat(below), STATE);
            EvenFlow lines = Flows.spentByLines();
            lines.line(0, 1, 0, 2);
            due.is(lines.beat(below), SPENT);
        }
    }
}
