import java.math.BigInteger;
import java.util.ArrayList;
import java.util.Arrays;
import java.util.Collections;
import java.util.List;

/**
 * The document again, word by word and with no thought for speed or room: what EvenFlow answers is
 * held against it. It shares no code with EvenFlow, and finds what it can in another way.
 */
final class PlainFlow {
    static final int BAD = -1, FULL = -2, FINDING = -3, STATE = -4, SPENT = -6, NONE = -9;

    static class Part {
        int kind, phases = 1, time = 1, thread, phase;
        long k, kept;
        List<Long> told, row;
    }

    static class Line {
        int from, to;
        int[] gives, takes;
        List<Long> first = new ArrayList<>(), things = new ArrayList<>(), given = new ArrayList<>();
    }

    static final class Finding extends Exception {
        private static final long serialVersionUID = 1;
        final int number;

        Finding(int number) {
            this.number = number;
        }
    }

    final List<Part> parts = new ArrayList<>();
    final List<Line> lines = new ArrayList<>();
    final List<Integer> draft = new ArrayList<>();
    final List<Integer> trace = new ArrayList<>();
    final int[] findings = new int[6];
    List<Integer> schedule, once;
    int[] stores;
    int finding, tries, done;
    final int[] threads = new int[4];
    long gave, asked;

    // ---- 1

    private boolean noPart(int p) {
        return p < 0 || p >= parts.size();
    }

    private boolean noLine(int l) {
        return l < 0 || l >= lines.size();
    }

    private int find(int f) {
        finding = f;
        findings[f]++;
        return FINDING;
    }

    private void anew() {
        schedule = null;
        once = null;
        toFirst();
    }

    private void toFirst() {
        done = 0;
        Arrays.fill(threads, 0);
        for (Part p : parts) {
            p.phase = 0;
            p.kept = 0;
            p.row = p.told == null ? null : new ArrayList<>(p.told);
        }
        for (Line l : lines) {
            l.things = new ArrayList<>(l.first);
            l.given.clear();
        }
    }

    int part(int kind, long k, int n) {
        if (kind < 0 || kind > 5 || kind == 4 && (n < 1 || n > 4) || kind == 5 && n > 12) return BAD;
        if (parts.size() == 12) return FULL;
        if (kind == 5 && n < 0) return find(5);
        Part p = new Part();
        p.kind = kind;
        p.k = k;
        if (kind == 4) p.phases = n;
        if (kind == 5) p.told = new ArrayList<>(Collections.nCopies(n, 0L));
        parts.add(p);
        anew();
        return parts.size() - 1;
    }

    int line(int from, int gives, int to, int takes) {
        if (noPart(from) || noPart(to) || gives < 1 || gives > 50 || takes < 1 || takes > 50) return BAD;
        if (lines.size() == 20) return FULL;
        Line l = new Line();
        l.from = from;
        l.to = to;
        l.gives = new int[parts.get(from).phases];
        Arrays.fill(l.gives, gives);
        l.takes = new int[parts.get(to).phases];
        Arrays.fill(l.takes, takes);
        lines.add(l);
        anew();
        return lines.size() - 1;
    }

    int count(int line, boolean taking, int phase, int n) {
        if (noLine(line) || n < 0 || n > 50) return BAD;
        Line l = lines.get(line);
        if (parts.get(taking ? l.to : l.from).kind != 4) return find(3);
        int[] c = taking ? l.takes : l.gives;
        if (phase < 0 || phase >= c.length) return find(2);
        int was = c[phase];
        c[phase] = n;
        anew();
        return was;
    }

    int first(int line, int n) {
        if (noLine(line) || n < 0 || n > 60) return BAD;
        lines.get(line).first = new ArrayList<>(Collections.nCopies(n, 0L));
        anew();
        return n;
    }

    int thing(int line, int i, long v) {
        if (noLine(line)) return BAD;
        if (i < 0 || i >= lines.get(line).first.size()) return find(2);
        lines.get(line).first.set(i, v);
        toFirst();
        return 1;
    }

    int row(int part, int i, long v) {
        if (noPart(part)) return BAD;
        Part p = parts.get(part);
        if (p.kind != 5) return find(3);
        if (p.told == null) return find(1);
        if (i < 0 || i >= p.told.size()) return find(2);
        p.told.set(i, v);
        toFirst();
        return 1;
    }

    int copy(int part, int i, int other, int j, int n) {
        if (noPart(part) || noPart(other)) return BAD;
        Part a = parts.get(part), b = parts.get(other);
        if (a.kind != 5 || b.kind != 5) return find(3);
        if (a.told == null || b.told == null) return find(1);
        if (n < 0 || i < 0 || j < 0 || (long) i + n > a.told.size() || (long) j + n > b.told.size()) return find(2);
        List<Long> taken = new ArrayList<>(a.told.subList(i, i + n));
        for (int m = 0; m < n; m++) b.told.set(j + m, taken.get(m));
        toFirst();
        return 1;
    }

    int tear(int part) {
        if (noPart(part)) return BAD;
        Part p = parts.get(part);
        if (p.kind != 5) return find(3);
        if (p.told == null) return find(1);
        p.told = null;
        toFirst();
        return 1;
    }

    int told(int part, int what) {
        if (noPart(part)) return BAD;
        Part p = parts.get(part);
        switch (what) {
            case 0: return p.kind;
            case 1: return p.phases;
            case 2: return p.time;
            case 3: return p.thread;
            case 4: return p.told == null ? NONE : p.told.size();
            default: return BAD;
        }
    }

    int is(int part, int kind) {
        if (noPart(part) || kind < 0 || kind > 5) return BAD;
        int own = parts.get(part).kind;
        boolean under = kind == own || kind == 0 || kind == 1 && (own == 2 || own == 3);
        return under ? 1 : 0;
    }

    int ends(int line, int what) {
        if (noLine(line)) return BAD;
        Line l = lines.get(line);
        switch (what) {
            case 0: return l.from;
            case 1: return l.to;
            case 2: return l.gives[0];
            case 3: return l.takes[0];
            case 4: return l.first.size();
            default: return BAD;
        }
    }

    // ---- 2

    private static BigInteger big(long n) {
        return BigInteger.valueOf(n);
    }

    /** What a ROUND is: by LINES up to each, all proportions anew. */
    private final class Round {
        /** 0 there is one, STATE, NONE UNEVEN, SPENT. */
        int state, uneven = NONE, all;
        int[] firings;
        private BigInteger[] up, low;
        private int[] tied;

        Round() {
            if (parts.isEmpty()) {
                state = STATE;
                return;
            }
            for (int upTo = 0; upTo < lines.size() && state == 0; upTo++) {
                lookAt(upTo);
            }
            if (state == 0) {
                spread(lines.size());
                count();
            }
        }

        private int sum(int[] c) {
            return Arrays.stream(c).sum();
        }

        private void lookAt(int upTo) {
            Line l = lines.get(upTo);
            int g = sum(l.gives), t = sum(l.takes);
            if (g == 0 && t == 0) return;
            if (g == 0 || t == 0) {
                state = NONE;
                uneven = upTo;
                return;
            }
            spread(upTo + 1);
            // The new LINE may have been gone ahead of an older one: then that one does not fit.
            for (int i = 0; i <= upTo; i++) {
                if (!fits(lines.get(i))) {
                    state = NONE;
                    uneven = upTo;
                    return;
                }
            }
            for (int a = 0; a < parts.size(); a++) {
                for (int b = 0; b < parts.size(); b++) {
                    if (tied[a] == tied[b]) {
                        BigInteger x = up[a].multiply(low[b]), y = up[b].multiply(low[a]);
                        if (x.divide(x.gcd(y)).compareTo(big(1000000)) > 0) state = SPENT;
                    }
                }
            }
        }

        private boolean fits(Line l) {
            BigInteger g = big(sum(l.gives)), t = big(sum(l.takes));
            return up[l.from].multiply(g).multiply(low[l.to]).equals(up[l.to].multiply(t).multiply(low[l.from]));
        }

        /** A proportion for each PART, from the least one that it is tied to. */
        private void spread(int upTo) {
            up = new BigInteger[parts.size()];
            low = new BigInteger[parts.size()];
            tied = new int[parts.size()];
            for (int p = 0; p < parts.size(); p++) {
                if (up[p] == null) reach(p, BigInteger.ONE, BigInteger.ONE, p, upTo);
            }
        }

        private void reach(int p, BigInteger u, BigInteger w, int mark, int upTo) {
            if (up[p] != null) return;
            BigInteger c = u.gcd(w);
            up[p] = u.divide(c);
            low[p] = w.divide(c);
            tied[p] = mark;
            for (int i = 0; i < upTo; i++) {
                Line l = lines.get(i);
                BigInteger g = big(sum(l.gives)), t = big(sum(l.takes));
                if (g.signum() == 0 || t.signum() == 0) continue;
                if (l.from == p) reach(l.to, up[p].multiply(g), low[p].multiply(t), mark, upTo);
                if (l.to == p) reach(l.from, up[p].multiply(t), low[p].multiply(g), mark, upTo);
            }
        }

        private void count() {
            BigInteger[] rows = new BigInteger[parts.size()];
            BigInteger sum = BigInteger.ZERO;
            for (int p = 0; p < parts.size(); p++) {
                BigInteger multiple = BigInteger.ONE, divisor = BigInteger.ZERO;
                for (int b = 0; b < parts.size(); b++) {
                    if (tied[b] == tied[p]) multiple = multiple.multiply(low[b]).divide(multiple.gcd(low[b]));
                }
                for (int b = 0; b < parts.size(); b++) {
                    if (tied[b] == tied[p]) divisor = divisor.gcd(up[b].multiply(multiple).divide(low[b]));
                }
                rows[p] = up[p].multiply(multiple).divide(low[p]).divide(divisor).multiply(big(parts.get(p).phases));
                sum = sum.add(rows[p]);
                if (rows[p].compareTo(big(1000)) > 0) state = SPENT;
            }
            if (sum.compareTo(big(2000)) > 0) state = SPENT;
            if (state != 0) return;
            all = sum.intValue();
            firings = new int[parts.size()];
            for (int p = 0; p < parts.size(); p++) firings[p] = rows[p].intValue();
        }
    }

    int round() {
        Round r = new Round();
        return r.state == 0 ? r.all : r.state;
    }

    int firings(int part) {
        if (noPart(part)) return BAD;
        Round r = new Round();
        return r.state == 0 ? r.firings[part] : r.state;
    }

    int uneven() {
        Round r = new Round();
        return r.state == STATE ? STATE : r.uneven;
    }

    /** A MARKING with what is left of a ROUND. */
    private final class Mark {
        int[] on = new int[lines.size()], most, phase = new int[parts.size()], left;

        Mark(Round r, int[] more) {
            for (int l = 0; l < on.length; l++) on[l] = lines.get(l).first.size() + (more == null ? 0 : more[l]);
            most = on.clone();
            left = r.firings.clone();
        }

        Mark(Mark m) {
            on = m.on.clone();
            most = m.most.clone();
            phase = m.phase.clone();
            left = m.left.clone();
        }

        int lacks(int p, int l) {
            return lines.get(l).to == p ? Math.max(0, lines.get(l).takes[phase[p]] - on[l]) : 0;
        }

        boolean may(int p) {
            if (left[p] == 0) return false;
            for (int l = 0; l < on.length; l++) if (lacks(p, l) > 0) return false;
            return true;
        }

        void fire(int p) {
            for (int l = 0; l < on.length; l++) {
                if (lines.get(l).to == p) on[l] -= lines.get(l).takes[phase[p]];
                if (lines.get(l).from == p) on[l] += lines.get(l).gives[phase[p]];
                most[l] = Math.max(most[l], on[l]);
            }
            phase[p] = (phase[p] + 1) % parts.get(p).phases;
            left[p]--;
        }

        int things() {
            return Arrays.stream(on).sum();
        }

        int stored() {
            return Arrays.stream(most).sum();
        }

        boolean over() {
            return Arrays.stream(left).sum() == 0;
        }
    }

    /** From the greatest PART down: STUCK must not hang on the order. */
    private boolean sticks(Round r, int[] more) {
        Mark m = new Mark(r, more);
        for (int p = parts.size() - 1; p >= 0; p--) {
            if (m.may(p)) {
                m.fire(p);
                p = parts.size();
            }
        }
        return !m.over();
    }

    private int refused(Round r) {
        return r.state == NONE ? STATE : r.state;
    }

    int stuck() {
        Round r = new Round();
        if (r.state != 0) return refused(r);
        return sticks(r, null) ? 1 : 0;
    }

    int lacks(int line) {
        if (noLine(line)) return BAD;
        Round r = new Round();
        if (r.state != 0) return refused(r);
        int[] more = new int[lines.size()];
        if (!sticks(r, null)) return 0;
        Mark m = new Mark(r, null);
        while (!m.over()) {
            int next = NONE, waits = NONE;
            for (int p = parts.size() - 1; p >= 0; p--) {
                if (m.left[p] > 0) waits = p;
                if (m.may(p)) next = p;
            }
            if (next >= 0) {
                m.fire(next);
                continue;
            }
            for (int l = 0; l < more.length; l++) {
                int n = m.lacks(waits, l);
                more[l] += n;
                m.on[l] += n;
            }
        }
        for (int l = 0; l < more.length; l++) {
            while (more[l] > 0) {
                more[l]--;
                if (sticks(r, more)) {
                    more[l]++;
                    break;
                }
            }
        }
        return more[line];
    }

    private int adopt(List<Integer> row, Round r) {
        Mark m = new Mark(r, null);
        for (int p : row) m.fire(p);
        schedule = row;
        stores = m.most;
        Arrays.fill(threads, 0);
        return m.stored();
    }

    int schedule(int rule) {
        if (rule < 0 || rule > 2) return BAD;
        Round r = new Round();
        if (r.state != 0) return refused(r);
        if (sticks(r, null)) return STATE;
        Mark m = new Mark(r, null);
        List<Integer> row = new ArrayList<>();
        while (!m.over()) {
            int best = NONE;
            for (int p = 0; p < parts.size(); p++) {
                if (m.may(p) && (best < 0 || rule == 1 && behind(m, p) < behind(m, best)
                        || rule == 2 && row.lastIndexOf(p) < row.lastIndexOf(best))) best = p;
            }
            m.fire(best);
            row.add(best);
        }
        return adopt(row, r);
    }

    private int behind(Mark m, int p) {
        Mark n = new Mark(m);
        n.fire(p);
        return n.things();
    }

    private List<Integer> best;
    private int bestSum, allowed;

    int least(int n) {
        if (n < 1 || n > 20000) return BAD;
        if (parts.size() > 8) return STATE;
        Round r = new Round();
        if (r.state != 0) return refused(r);
        if (sticks(r, null) || r.all > 40) return STATE;
        best = null;
        tries = 0;
        allowed = n;
        if (!tryAll(new Mark(r, null), new ArrayList<>())) return SPENT;
        return adopt(best, r);
    }

    private boolean tryAll(Mark m, List<Integer> row) {
        for (int p = 0; p < parts.size(); p++) {
            if (!m.may(p)) continue;
            if (tries == allowed) return false;
            tries++;
            Mark n = new Mark(m);
            n.fire(p);
            if (best != null && n.stored() >= bestSum) continue;
            List<Integer> longer = new ArrayList<>(row);
            longer.add(p);
            if (n.over()) {
                best = longer;
                bestSum = n.stored();
            } else if (!tryAll(n, longer)) {
                return false;
            }
        }
        return true;
    }

    int tries() {
        return tries;
    }

    /** A row of PARTS, or of brackets: the sum of its STORES, and how it is written inside outer times. */
    private static final class Row {
        int sum, g, part = NONE;
        Row one, two;

        void write(int outer, List<Integer> items) {
            int n = g / outer;
            if (n > 1) items.add(n + 1);
            if (one == null) {
                items.add(-1 - part);
            } else {
                one.write(g, items);
                two.write(g, items);
            }
            if (n > 1) items.add(0);
        }
    }

    private Row rowOf(List<Integer> row, Round r) {
        Row whole = new Row();
        for (int p : row) whole.g = big(whole.g).gcd(big(r.firings[p])).intValue();
        if (row.size() == 1) {
            whole.part = row.get(0);
            return whole;
        }
        for (int cut = 1; cut < row.size(); cut++) {
            List<Integer> a = row.subList(0, cut), b = row.subList(cut, row.size());
            Row x = rowOf(a, r), y = rowOf(b, r);
            int sum = x.sum + y.sum;
            for (Line l : lines) {
                if (a.contains(l.from) && b.contains(l.to)) sum += r.firings[l.from] * l.gives[0] / whole.g + l.first.size();
            }
            if (whole.one == null || sum < whole.sum) {
                whole.sum = sum;
                whole.one = x;
                whole.two = y;
            }
        }
        return whole;
    }

    int once() {
        Round r = new Round();
        if (r.state != 0) return refused(r);
        for (Part p : parts) if (p.kind == 4) return find(3);
        List<Integer> row = new ArrayList<>();
        while (row.size() < parts.size()) {
            int next = NONE;
            for (int p = parts.size() - 1; p >= 0; p--) {
                boolean free = !row.contains(p);
                for (Line l : lines) if (l.to == p && !row.contains(l.from)) free = false;
                if (free) next = p;
            }
            if (next < 0) return NONE;
            row.add(next);
        }
        Row whole = rowOf(row, r);
        once = new ArrayList<>();
        whole.write(1, once);
        List<Integer> unrolled = new ArrayList<>();
        unroll(0, unrolled);
        int sum = adopt(unrolled, r);
        if (sum != whole.sum) throw new IllegalStateException("brackets store " + whole.sum + ", their FIRINGS " + sum);
        return sum;
    }

    /** Reads what is written from an item on up to its end: where it goes on behind. */
    private int unroll(int at, List<Integer> into) {
        int i = at;
        while (i < once.size() && once.get(i) != 0) {
            int item = once.get(i);
            if (item < 0) {
                into.add(-1 - item);
                i++;
            } else {
                int end = i;
                for (int n = 1; n < item; n++) end = unroll(i + 1, into);
                i = end;
            }
        }
        return i + 1;
    }

    int bracket(int i) {
        return once == null || i < 0 || i >= once.size() ? NONE : once.get(i);
    }

    int firing(int i) {
        return schedule == null || i < 0 || i >= schedule.size() ? NONE : schedule.get(i);
    }

    int store(int line) {
        if (noLine(line)) return BAD;
        return schedule == null ? NONE : stores[line];
    }

    int marking(int i, int line) {
        if (noLine(line)) return BAD;
        if (schedule == null || i < 0 || i > schedule.size()) return NONE;
        Mark m = new Mark(new Round(), null);
        for (int j = 0; j < i; j++) m.fire(schedule.get(j));
        return m.on[line];
    }

    int draft(int part) {
        if (noPart(part)) return BAD;
        if (draft.size() == 200) return FULL;
        draft.add(part);
        return draft.size();
    }

    int check() {
        List<Integer> row = new ArrayList<>(draft);
        draft.clear();
        Round r = new Round();
        if (r.state != 0) return refused(r);
        Mark m = new Mark(r, null);
        for (int i = 0; i < row.size(); i++) {
            if (!m.may(row.get(i))) return -10 - i;
            m.fire(row.get(i));
        }
        return m.over() ? adopt(row, r) : -10 - row.size();
    }

    // ---- 3

    int time(int part, int t) {
        if (noPart(part) || t < 0 || t > 1000) return BAD;
        int was = parts.get(part).time;
        parts.get(part).time = t;
        return was;
    }

    int beat(boolean below) {
        Round r = new Round();
        if (r.state != 0) return refused(r);
        if (sticks(r, null) || r.all > 60) return STATE;
        return PlainBeat.of(this, r.firings)[below ? 1 : 0];
    }

    // ---- 4

    int may(int part) {
        if (noPart(part)) return BAD;
        for (Line l : lines) if (l.to == part && l.things.size() < l.takes[parts.get(part).phase]) return 0;
        return 1;
    }

    private List<Long> taken(int part) {
        List<Long> all = new ArrayList<>();
        for (Line l : lines) if (l.to == part) all.addAll(l.things.subList(0, l.takes[parts.get(part).phase]));
        return all;
    }

    private long body(int number, int part) throws Finding {
        trace.add(number);
        Part p = parts.get(part);
        switch (number) {
            case 1: {
                long sum = p.k;
                for (long v : taken(part)) sum += v;
                return sum;
            }
            case 2: return p.k * body(1, part);
            case 3: return p.kept = body(2, part) + p.kept;
            case 4: {
                long whole = body(2, part);
                if (taken(part).isEmpty() || taken(part).get(0) == 0) throw new Finding(4);
                return big(whole).divide(big(taken(part).get(0))).longValue();
            }
            case 5: return body(1, part) + p.phase;
            default: {
                if (p.row == null) throw new Finding(1);
                p.row.add(body(1, part));
                return p.row.remove(0);
            }
        }
    }

    int fire(int part) {
        if (noPart(part)) return BAD;
        if (done == 5000) return STATE;
        if (may(part) == 0) return 0;
        Part p = parts.get(part);
        for (Line l : lines) {
            int behind = l.things.size() - (l.to == part ? l.takes[p.phase] : 0) + (l.from == part ? l.gives[p.phase] : 0);
            if (behind > 400) return STATE;
        }
        trace.clear();
        long v;
        try {
            v = body(new int[] {1, 2, 3, 4, 5, 6}[p.kind], part);
        } catch (Finding f) {
            return find(f.number);
        }
        for (Line l : lines) if (l.to == part) l.things.subList(0, l.takes[p.phase]).clear();
        for (Line l : lines) {
            if (l.from != part) continue;
            for (int i = 0; i < l.gives[p.phase]; i++) {
                l.things.add(v + i);
                l.given.add(v + i);
            }
        }
        p.phase = (p.phase + 1) % p.phases;
        done++;
        gave = v;
        return 1;
    }

    long gave() {
        return gave;
    }

    int trace(int i) {
        return i < 0 || i >= trace.size() ? NONE : trace.get(i);
    }

    int deal(int part, int thread) {
        if (noPart(part) || thread < 0 || thread > 3) return BAD;
        int was = parts.get(part).thread;
        parts.get(part).thread = thread;
        Arrays.fill(threads, 0);
        return was;
    }

    int go(int thread) {
        if (thread < 0 || thread > 3) return BAD;
        if (schedule == null) return STATE;
        List<Integer> own = new ArrayList<>();
        for (int p : schedule) if (parts.get(p).thread == thread) own.add(p);
        if (own.isEmpty()) return STATE;
        int part = own.get(threads[thread] % own.size());
        int answer = fire(part);
        if (answer == 0) return NONE;
        if (answer != 1) return answer;
        threads[thread]++;
        return part;
    }

    int reset() {
        int were = done;
        toFirst();
        return were;
    }

    int things(int line) {
        return noLine(line) ? BAD : lines.get(line).things.size();
    }

    int look(int line, int i) {
        if (noLine(line)) return BAD;
        if (i < 0 || i >= lines.get(line).things.size()) return find(2);
        asked = lines.get(line).things.get(i);
        return 1;
    }

    int given(int line, int i) {
        if (noLine(line) || i < 0 || i > 199) return BAD;
        if (i >= lines.get(line).given.size()) return NONE;
        asked = lines.get(line).given.get(i);
        return 1;
    }

    long asked() {
        return asked;
    }

    int many(int what) {
        switch (what) {
            case 0: return parts.size();
            case 1: return lines.size();
            case 2: return done;
            case 3: return schedule == null ? NONE : schedule.size();
            case 4: return draft.size();
            default: return BAD;
        }
    }

    int finding() {
        return finding;
    }

    int findings(int f) {
        return f < 1 || f > 5 ? BAD : findings[f];
    }

    long digest() {
        List<Long> all = new ArrayList<>();
        for (int p = 0; p < parts.size(); p++) {
            for (int what = 0; what < 5; what++) all.add((long) told(p, what));
            all.add((long) parts.get(p).phase);
            all.add(parts.get(p).kept);
            if (parts.get(p).row != null) all.addAll(parts.get(p).row);
        }
        for (int l = 0; l < lines.size(); l++) {
            for (int what = 0; what < 5; what++) all.add((long) ends(l, what));
            all.add((long) things(l));
            all.addAll(lines.get(l).things);
        }
        if (schedule != null) for (int p : schedule) all.add((long) p);
        long h = 17;
        for (long v : all) h = 31 * h + v;
        return h;
    }
}
