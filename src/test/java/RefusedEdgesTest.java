import java.util.ArrayList;
import java.util.List;
import java.util.function.Supplier;
import java.util.function.ToIntFunction;

/**
 * "What is refused changes nothing": of two objects that were made alike one is refused a call, and then both are
 * asked for all that can be asked.
 */
public final class RefusedEdgesTest {
    private static final int BAD = EvenFlow.BAD, FULL = EvenFlow.FULL, STATE = EvenFlow.STATE, SPENT = EvenFlow.SPENT, NONE = EvenFlow.NONE;
    private static final int NOTHING = 1, BEYOND = 2, CAST = 3, NOUGHT = 4, SIZE = 5;
    private static final int FIXED = 0, SCALED = 1, KEEPER = 2, SHARE = 3, PHASED = 4, DELAY = 5;
    private static final Due due = new Due();

    public static void main(String[] args) {
        due.says(0, "What is refused changes nothing but finding(), findings()");
        bad();
        full();
        state();
        spent();
        findings();
        none();
        traceOfFindings();
        due.end();
    }

    /** Much is told, and much has been done: ONCE, then another SCHEDULE; THREADS are within it. */
    private static EvenFlow rich() {
        EvenFlow x = new EvenFlow();
        x.part(FIXED, 3, 0);
        x.part(SCALED, 2, 0);
        x.part(KEEPER, 5, 0);
        x.part(SHARE, 7, 0);
        x.part(DELAY, 1, 3);
        x.part(DELAY, 1, 2);
        x.line(0, 2, 1, 1);
        x.line(1, 1, 2, 2);
        x.line(2, 1, 4, 1);
        x.first(0, 1);
        x.thing(0, 0, 4);
        x.row(4, 0, 11);
        x.row(4, 2, 13);
        x.tear(5);
        x.time(2, 4);
        x.deal(1, 1);
        x.deal(4, 2);
        x.once();
        x.least(20000);
        x.schedule(2);
        x.draft(0);
        x.draft(2);
        x.fire(0);
        x.go(0);
        x.go(1);
        x.go(1);
        x.go(0);
        x.fire(4);
        x.go(1);
        x.look(1, 0);
        x.tear(0);
        x.go(1);
        return x;
    }

    /** PHASES on the way, and a SCHEDULE. */
    private static EvenFlow phased() {
        EvenFlow x = Flows.one(PHASED, 1, 3);
        x.part(KEEPER, 1, 0);
        x.line(0, 1, 1, 3);
        x.line(0, 2, 0, 2);
        x.count(1, false, 0, 3);
        x.count(1, false, 2, 1);
        x.first(1, 4);
        x.schedule(1);
        x.deal(1, 1);
        x.go(0);
        x.go(0);
        x.fire(0);
        x.fire(0);
        x.go(1);
        x.given(0, 2);
        return x;
    }

    /** 12 PARTS, 20 LINES, 200 PARTS in THE DRAFT. */
    private static EvenFlow fullOne() {
        EvenFlow x = Flows.parts(12);
        for (int l = 0; l < 20; l++) {
            x.line(l % 11, 1, 11, 1);
        }
        for (int i = 0; i < 200; i++) {
            x.draft(i % 12);
        }
        x.once();
        x.go(0);
        x.fire(1);
        return x;
    }

    /** A SCHEDULE, and LINE 0 as full as it can be; PART 2 has no ROW, PART 3 nothing to divide by. */
    private static EvenFlow brimful() {
        EvenFlow x = Flows.chain(50, 50);
        x.part(DELAY, 0, 1);
        x.part(SHARE, 2, 0);
        x.deal(1, 1);
        x.deal(2, 2);
        x.deal(3, 3);
        x.tear(2);
        x.schedule(0);
        for (int i = 0; i < 8; i++) {
            x.go(0);
        }
        return x;
    }

    private static EvenFlow drafted(EvenFlow x) {
        x.draft(0);
        x.fire(0);
        return x;
    }

    /** All that can be asked, at last with calls that go on from where THE STATE is. */
    private static List<Long> everything(EvenFlow x) {
        List<Long> all = new ArrayList<>();
        askWhatWas(x, all);
        askGraph(x, all);
        askSchedule(x, all);
        goOn(x, all);
        return all;
    }

    private static void askWhatWas(EvenFlow x, List<Long> all) {
        all.add(x.asked());
        all.add(x.gave());
        all.add((long) x.tries());
        all.add(x.digest());
        for (int what = 0; what < 5; what++) {
            all.add((long) x.many(what));
        }
    }

    private static void askGraph(EvenFlow x, List<Long> all) {
        all.add((long) x.round());
        all.add((long) x.uneven());
        all.add((long) x.stuck());
        all.add((long) x.beat(false));
        all.add((long) x.beat(true));
        for (int p = 0; p < x.many(0); p++) {
            all.add((long) x.firings(p));
            all.add((long) x.may(p));
        }
        for (int l = 0; l < x.many(1); l++) {
            all.add((long) x.lacks(l));
            all.add((long) x.things(l));
            for (int i = 0; x.given(l, i) == 1; i++) {
                all.add(x.asked());
            }
        }
    }

    private static void askSchedule(EvenFlow x, List<Long> all) {
        for (int i = 0; i < 40; i++) {
            all.add((long) x.bracket(i));
        }
        for (int i = 0; i < 20; i++) {
            all.add((long) x.firing(i));
            for (int l = 0; l < x.many(1); l++) {
                all.add((long) x.store(l));
                all.add((long) x.marking(i, l));
            }
        }
    }

    private static void goOn(EvenFlow x, List<Long> all) {
        for (int i = 0; i < 12; i++) {
            all.add((long) x.go(i % 4));
            all.add(x.gave());
        }
        for (int p = 0; p < x.many(0); p++) {
            all.add((long) x.fire(p));
        }
        all.add(x.digest());
        all.add((long) x.check());
        all.add((long) x.reset());
        for (int p = 0; p < x.many(0); p++) {
            all.add((long) x.fire(p));
            all.add(x.gave());
        }
        all.add(x.digest());
    }

    private static long[] findingsOf(EvenFlow x) {
        long[] all = new long[6];
        all[0] = x.finding();
        for (int f = 1; f <= 5; f++) {
            all[f] = x.findings(f);
        }
        return all;
    }

    /** A call that is refused, and answers no FINDING: nothing at all is changed. */
    private static void refused(Supplier<EvenFlow> made, int answer, ToIntFunction<EvenFlow> call) {
        EvenFlow x = made.get();
        EvenFlow y = made.get();
        due.is(call.applyAsInt(y), answer);
        due.are(findingsOf(y), findingsOf(x));
        due.are(Flows.trace(y, 4), Flows.trace(x, 4));
        due.holds(everything(y).equals(everything(x)), "a refused call changed something");
    }

    /** A call that meets a FINDING: that is counted, and nothing else is changed but, where told, THE TRACE. */
    private static void meets(Supplier<EvenFlow> made, int finding, boolean writesTrace, ToIntFunction<EvenFlow> call) {
        EvenFlow x = made.get();
        EvenFlow y = made.get();
        due.is(call.applyAsInt(y), EvenFlow.FINDING);
        long[] want = findingsOf(x);
        want[0] = finding;
        want[finding]++;
        due.are(findingsOf(y), want);
        if (!writesTrace) {
            due.are(Flows.trace(y, 4), Flows.trace(x, 4));
        }
        due.holds(everything(y).equals(everything(x)), "a call that met a FINDING changed something");
    }

    private static void bad() {
        Supplier<EvenFlow> r = RefusedEdgesTest::rich;
        refused(r, BAD, x -> x.part(6, 0, 0));
        refused(r, BAD, x -> x.part(PHASED, 0, 5));
        refused(r, BAD, x -> x.part(DELAY, 0, 13));
        refused(r, BAD, x -> x.line(0, 0, 1, 1));
        refused(r, BAD, x -> x.line(0, 1, 6, 1));
        refused(r, BAD, x -> x.line(0, 1, 1, 51));
        refused(r, BAD, x -> x.count(3, true, 0, 1));
        refused(RefusedEdgesTest::phased, BAD, x -> x.count(0, false, 0, 51));
        refused(RefusedEdgesTest::phased, BAD, x -> x.count(0, false, 0, -1));
        refused(r, BAD, x -> x.first(0, 61));
        refused(r, BAD, x -> x.first(0, -1));
        refused(r, BAD, x -> x.first(3, 1));
        refused(r, BAD, x -> x.thing(3, 0, 1));
        refused(r, BAD, x -> x.row(6, 0, 1));
        refused(r, BAD, x -> x.copy(4, 0, 6, 0, 1));
        refused(r, BAD, x -> x.copy(6, 0, 4, 0, 1));
        refused(r, BAD, x -> x.tear(6));
        refused(r, BAD, x -> x.told(6, 0));
        refused(r, BAD, x -> x.told(0, 5));
        refused(r, BAD, x -> x.is(0, 6));
        refused(r, BAD, x -> x.ends(0, 5));
        refused(r, BAD, x -> x.firings(6));
        refused(r, BAD, x -> x.lacks(3));
        refused(r, BAD, x -> x.schedule(3));
        refused(r, BAD, x -> x.schedule(-1));
        refused(r, BAD, x -> x.least(0));
        refused(r, BAD, x -> x.least(20001));
        refused(r, BAD, x -> x.store(3));
        refused(r, BAD, x -> x.marking(0, 3));
        refused(r, BAD, x -> x.draft(6));
        refused(r, BAD, x -> x.time(0, 1001));
        refused(r, BAD, x -> x.time(6, 1));
        refused(r, BAD, x -> x.may(6));
        refused(r, BAD, x -> x.fire(6));
        refused(r, BAD, x -> x.deal(0, 4));
        refused(r, BAD, x -> x.deal(6, 0));
        refused(r, BAD, x -> x.go(4));
        refused(r, BAD, x -> x.go(-1));
        refused(r, BAD, x -> x.things(3));
        refused(r, BAD, x -> x.look(3, 0));
        refused(r, BAD, x -> x.given(3, 0));
        refused(r, BAD, x -> x.given(0, 200));
        refused(r, BAD, x -> x.many(5));
        refused(r, BAD, x -> x.findings(6));
    }

    private static void full() {
        refused(RefusedEdgesTest::fullOne, FULL, x -> x.part(FIXED, 0, 0));
        refused(RefusedEdgesTest::fullOne, FULL, x -> x.part(DELAY, 0, -1));
        refused(RefusedEdgesTest::fullOne, FULL, x -> x.line(0, 1, 11, 1));
        refused(RefusedEdgesTest::fullOne, FULL, x -> x.draft(0));
    }

    private static void state() {
        refused(EvenFlow::new, STATE, EvenFlow::round);
        refused(EvenFlow::new, STATE, EvenFlow::once);
        refused(EvenFlow::new, STATE, x -> x.schedule(0));
        refused(EvenFlow::new, STATE, x -> x.go(0));
        Supplier<EvenFlow> uneven = () -> drafted(Flows.uneven());
        refused(uneven, STATE, EvenFlow::stuck);
        refused(uneven, STATE, x -> x.lacks(0));
        refused(uneven, STATE, x -> x.schedule(0));
        refused(uneven, STATE, x -> x.least(9));
        refused(uneven, STATE, EvenFlow::once);
        refused(uneven, STATE, x -> x.beat(true));
        Supplier<EvenFlow> sticking = () -> drafted(Flows.sticking());
        refused(sticking, STATE, x -> x.schedule(0));
        refused(sticking, STATE, x -> x.least(9));
        refused(sticking, STATE, x -> x.beat(false));
        // More than 8 PARTS, more than 40 FIRINGS, more than 60: the latest SCHEDULE stays, and where THREADS are.
        refused(RefusedEdgesTest::fullOne, STATE, x -> x.least(9));
        Supplier<EvenFlow> many = () -> {
            EvenFlow x = Flows.chain(40, 1, 1, 2);
            x.once();
            x.go(0);
            x.go(0);
            return x;
        };
        refused(many, STATE, x -> x.least(9));
        refused(many, STATE, x -> x.beat(false));
        // THREADS without a PART, and one whose LINE is full.
        refused(RefusedEdgesTest::rich, STATE, x -> x.go(3));
        refused(RefusedEdgesTest::brimful, STATE, x -> x.go(0));
        refused(RefusedEdgesTest::brimful, STATE, x -> x.fire(0));
    }

    private static void spent() {
        Supplier<EvenFlow> spent = () -> drafted(Flows.spent());
        refused(spent, SPENT, EvenFlow::round);
        refused(spent, SPENT, x -> x.firings(0));
        refused(spent, SPENT, EvenFlow::stuck);
        refused(spent, SPENT, x -> x.lacks(0));
        refused(spent, SPENT, x -> x.schedule(0));
        refused(spent, SPENT, x -> x.least(9));
        refused(spent, SPENT, EvenFlow::once);
        refused(spent, SPENT, x -> x.beat(false));
        // By TRIES: the latest SCHEDULE and where THREADS are in it stay; tries() alone tells of it.
        Supplier<EvenFlow> tried = () -> {
            EvenFlow x = phased();
            x.least(2);
            return x;
        };
        refused(tried, SPENT, x -> x.least(2));
        due.are(Flows.latest(tried.get()), Flows.latest(phased()));
        due.is(tried.get().tries(), 2);
    }

    private static void findings() {
        Supplier<EvenFlow> r = RefusedEdgesTest::rich;
        meets(r, SIZE, false, x -> x.part(DELAY, 0, -1));
        meets(r, CAST, false, x -> x.count(0, true, 0, 1));
        meets(RefusedEdgesTest::phased, BEYOND, false, x -> x.count(0, false, 3, 1));
        meets(r, BEYOND, false, x -> x.thing(0, 1, 9));
        meets(r, CAST, false, x -> x.row(0, 0, 9));
        meets(r, NOTHING, false, x -> x.row(5, 0, 9));
        meets(r, BEYOND, false, x -> x.row(4, 3, 9));
        meets(r, CAST, false, x -> x.copy(4, 0, 0, 0, 1));
        meets(r, NOTHING, false, x -> x.copy(4, 0, 5, 0, 1));
        meets(r, BEYOND, false, x -> x.copy(4, 0, 4, 1, 3));
        meets(r, BEYOND, false, x -> x.copy(4, 1, 4, 0, 3));
        meets(r, CAST, false, x -> x.tear(3));
        meets(r, NOTHING, false, x -> x.tear(5));
        meets(RefusedEdgesTest::phased, CAST, false, EvenFlow::once);
        meets(r, BEYOND, false, x -> x.look(2, 9));
        meets(r, NOUGHT, true, x -> x.fire(3));
        meets(r, NOTHING, true, x -> x.fire(5));
        meets(RefusedEdgesTest::brimful, NOTHING, true, x -> x.go(2));
        meets(RefusedEdgesTest::brimful, NOUGHT, true, x -> x.go(3));
    }

    /** NONE, and a FIRING that may not be, change nothing either. */
    private static void none() {
        refused(RefusedEdgesTest::rich, NONE, x -> x.bracket(39));
        refused(RefusedEdgesTest::rich, NONE, x -> x.firing(99));
        refused(RefusedEdgesTest::rich, NONE, x -> x.marking(99, 0));
        refused(RefusedEdgesTest::rich, NONE, x -> x.given(0, 99));
        refused(RefusedEdgesTest::rich, NONE, x -> x.trace(9));
        refused(RefusedEdgesTest::rich, NONE, x -> x.go(2));
        refused(RefusedEdgesTest::rich, 0, x -> x.fire(4));
        Supplier<EvenFlow> ring = () -> {
            EvenFlow x = Flows.ring(1, 1, 0);
            x.schedule(0);
            x.go(0);
            return x;
        };
        refused(ring, NONE, EvenFlow::once);
    }

    private static void traceOfFindings() {
        due.says(0, "(and, of fire(), go() that meet a FINDING, THE TRACE: it is what that WORK wrote ahead of it).");
        EvenFlow x = brimful();
        due.are(Flows.trace(x, 4), 1, NONE, NONE, NONE);
        x.go(2);
        due.are(Flows.trace(x, 4), 6, NONE, NONE, NONE);
        x.go(3);
        due.are(Flows.trace(x, 4), 4, 2, 1, NONE);
        x.fire(2);
        due.are(Flows.trace(x, 4), 6, NONE, NONE, NONE);
        x.fire(3);
        due.are(Flows.trace(x, 4), 4, 2, 1, NONE);
        // Of other calls that meet a FINDING it is not.
        x.tear(2);
        x.row(0, 0, 0);
        x.part(DELAY, 0, -1);
        due.are(Flows.trace(x, 4), 4, 2, 1, NONE);
    }
}
