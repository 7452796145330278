import java.util.Arrays;

/**
 * Graphs of PARTS that take and give things by fixed COUNTS: rounds that can be gone for ever,
 * schedules and what they store, the beat of the slowest ring, and the things themselves.
 * The words in capitals are those of the document.
 */
public final class EvenFlow {
    public static final int BAD = -1, FULL = -2, FINDING = -3, STATE = -4, SPENT = -6, NONE = -9;

    private static final int NOTHING = 1, BEYOND = 2, CAST = 3, NOUGHT = 4, SIZE = 5;

    private static final int FIXED = 0, SCALED = 1, KEEPER = 2, SHARE = 3, PHASED = 4, DELAY = 5;

    /** The KIND that each KIND is directly under. */
    private static final int[] KIND_ABOVE = {-1, 0, 1, 1, 0, 0};

    private static final int MOST_PARTS = 12, MOST_LINES = 20, MOST_PHASES = 4, MOST_PLACES = 12;
    private static final int MOST_COUNT = 50, MOST_FIRST = 60, MOST_TIME = 1000, THREADS = 4;
    private static final int MOST_THINGS = 400, MOST_TOLD_GIVEN = 200, MOST_DONE = 5000;
    private static final int MOST_PROPORTION = 1000000, MOST_OF_ONE = 1000, MOST_IN_ROUND = 2000;
    private static final int MOST_DRAFT = 200, MOST_TRIES = 20000;
    private static final int LEAST_PARTS = 8, LEAST_FIRINGS = 40, BEAT_FIRINGS = 60;
    /** Above every sum of STORES: those of 20 LINES, each of which gets at most 50000 things in a ROUND. */
    private static final int ABOVE_ALL_SUMS = 1000000000;

    private final Graph graph;
    private final Plan plan;
    private final Lack lack;
    private final Least search;
    private final Once brackets;
    private final Beat slowest;
    private final Works works;
    private final int[] drafted;
    private int draftLength;
    private int latestFinding;
    private final int[] answered;
    private long latestAsked;

    public EvenFlow() {
        graph = new Graph();
        Marking ahead = new Marking(graph);
        plan = new Plan(graph, ahead);
        lack = new Lack(graph, ahead);
        search = new Least(graph, ahead);
        brackets = new Once(graph);
        slowest = new Beat(graph);
        works = new Works(graph);
        drafted = new int[MOST_DRAFT];
        answered = new int[SIZE + 1];
    }

    // ---- 1 parts, lines

    public int part(int kind, long k, int n) {
        if (kind < FIXED || kind > DELAY) {
            return BAD;
        }
        if (kind == PHASED && (n < 1 || n > MOST_PHASES) || kind == DELAY && n > MOST_PLACES) {
            return BAD;
        }
        if (graph.partCount >= MOST_PARTS) {
            return FULL;
        }
        if (kind == DELAY && n < 0) {
            return meets(SIZE);
        }
        int number = graph.addPart(kind, k, n);
        graphChanged();
        return number;
    }

    public int line(int from, int gives, int to, int takes) {
        Part giver = graph.partAt(from);
        Part taker = graph.partAt(to);
        if (giver == null || taker == null) {
            return BAD;
        }
        if (gives < 1 || gives > MOST_COUNT || takes < 1 || takes > MOST_COUNT) {
            return BAD;
        }
        if (graph.lineCount >= MOST_LINES) {
            return FULL;
        }
        int number = graph.addLine(giver, gives, taker, takes);
        graphChanged();
        return number;
    }

    public int count(int line, boolean taking, int phase, int n) {
        Line l = graph.lineAt(line);
        if (l == null || n < 0 || n > MOST_COUNT) {
            return BAD;
        }
        Part end = taking ? l.to : l.from;
        if (end.kind != PHASED) {
            return meets(CAST);
        }
        int[] counts = taking ? l.takes : l.gives;
        if (phase < 0 || phase >= counts.length) {
            return meets(BEYOND);
        }
        int was = counts[phase];
        counts[phase] = n;
        graphChanged();
        return was;
    }

    public int first(int line, int n) {
        Line l = graph.lineAt(line);
        if (l == null || n < 0 || n > MOST_FIRST) {
            return BAD;
        }
        Arrays.fill(l.firstThings, 0L);
        l.firstCount = n;
        graphChanged();
        return n;
    }

    public int thing(int line, int i, long v) {
        Line l = graph.lineAt(line);
        if (l == null) {
            return BAD;
        }
        if (i < 0 || i >= l.firstCount || i >= l.firstThings.length) {
            return meets(BEYOND);
        }
        l.firstThings[i] = v;
        toFirstMarking();
        return 1;
    }

    public int row(int part, int i, long v) {
        Part p = graph.partAt(part);
        if (p == null) {
            return BAD;
        }
        if (p.kind != DELAY) {
            return meets(CAST);
        }
        if (p.toldRow == null) {
            return meets(NOTHING);
        }
        if (i < 0 || i >= p.toldRow.length) {
            return meets(BEYOND);
        }
        p.toldRow[i] = v;
        toFirstMarking();
        return 1;
    }

    public int copy(int part, int i, int other, int j, int n) {
        Part source = graph.partAt(part);
        Part target = graph.partAt(other);
        if (source == null || target == null) {
            return BAD;
        }
        if (source.kind != DELAY || target.kind != DELAY) {
            return meets(CAST);
        }
        if (source.toldRow == null || target.toldRow == null) {
            return meets(NOTHING);
        }
        if (!hasPlaces(source.toldRow, i, n) || !hasPlaces(target.toldRow, j, n)) {
            return meets(BEYOND);
        }
        System.arraycopy(source.toldRow, i, target.toldRow, j, n);
        toFirstMarking();
        return 1;
    }

    public int tear(int part) {
        Part p = graph.partAt(part);
        if (p == null) {
            return BAD;
        }
        if (p.kind != DELAY) {
            return meets(CAST);
        }
        if (p.toldRow == null) {
            return meets(NOTHING);
        }
        p.toldRow = null;
        p.row = null;
        toFirstMarking();
        return 1;
    }

    public int told(int part, int what) {
        Part p = graph.partAt(part);
        if (p == null || what < 0 || what > 4) {
            return BAD;
        }
        return p.toldOf(what);
    }

    public int is(int part, int kind) {
        Part p = graph.partAt(part);
        if (p == null || kind < FIXED || kind > DELAY) {
            return BAD;
        }
        int above = p.kind;
        for (int step = 0; step < KIND_ABOVE.length && above >= 0 && above < KIND_ABOVE.length; step++) {
            if (above == kind) {
                return 1;
            }
            above = KIND_ABOVE[above];
        }
        return 0;
    }

    public int ends(int line, int what) {
        Line l = graph.lineAt(line);
        if (l == null || what < 0 || what > 4) {
            return BAD;
        }
        return l.endOf(what);
    }

    // ---- 2 rounds, schedules

    public int round() {
        int state = graph.roundState();
        return state == Graph.FOUND ? graph.inRound : state;
    }

    public int firings(int part) {
        Part p = graph.partAt(part);
        if (p == null) {
            return BAD;
        }
        int state = graph.roundState();
        return state == Graph.FOUND ? p.inRound : state;
    }

    public int uneven() {
        return graph.roundState() == STATE ? STATE : graph.unevenLine;
    }

    public int stuck() {
        int no = noRound();
        if (no != 0) {
            return no;
        }
        return lack.isStuck() ? 1 : 0;
    }

    public int lacks(int line) {
        if (graph.lineAt(line) == null) {
            return BAD;
        }
        int no = noRound();
        return no != 0 ? no : lack.moreOn(line);
    }

    public int schedule(int rule) {
        if (rule < 0 || rule > 2) {
            return BAD;
        }
        int no = noSchedule();
        return no != 0 ? no : plan.goByRule(rule);
    }

    public int least(int n) {
        if (n < 1 || n > MOST_TRIES) {
            return BAD;
        }
        if (graph.partCount > LEAST_PARTS) {
            return STATE;
        }
        int no = noSchedule();
        if (no != 0) {
            return no;
        }
        if (graph.inRound > LEAST_FIRINGS) {
            return STATE;
        }
        return search.finds(n) ? plan.adopt(search.best, graph.inRound) : SPENT;
    }

    public int tries() {
        return search.tryCount;
    }

    public int once() {
        int no = noRound();
        if (no != 0) {
            return no;
        }
        if (graph.hasPhased()) {
            return meets(CAST);
        }
        if (!brackets.arrange()) {
            return NONE;
        }
        brackets.unrollInto(plan.row);
        return plan.adopt(plan.row, graph.inRound);
    }

    public int bracket(int i) {
        return brackets.itemAt(i);
    }

    public int firing(int i) {
        return plan.has(i) ? plan.row[i] : NONE;
    }

    public int store(int line) {
        if (graph.lineAt(line) == null) {
            return BAD;
        }
        return plan.length == 0 ? NONE : plan.stores[line];
    }

    public int marking(int i, int line) {
        Line l = graph.lineAt(line);
        if (l == null) {
            return BAD;
        }
        if (plan.length == 0 || i < 0 || i > plan.length) {
            return NONE;
        }
        return plan.onLineBehind(l, i);
    }

    public int draft(int part) {
        if (graph.partAt(part) == null) {
            return BAD;
        }
        if (draftLength >= MOST_DRAFT) {
            return FULL;
        }
        drafted[draftLength] = part;
        draftLength++;
        return draftLength;
    }

    public int check() {
        int length = draftLength;
        draftLength = 0;
        int no = noRound();
        if (no != 0) {
            return no;
        }
        int fault = plan.faultOf(drafted, length);
        return fault >= 0 ? -10 - fault : plan.adopt(drafted, length);
    }

    // ---- 3 the beat

    public int time(int part, int t) {
        Part p = graph.partAt(part);
        if (p == null || t < 0 || t > MOST_TIME) {
            return BAD;
        }
        int was = p.time;
        p.time = t;
        slowest.forget();
        return was;
    }

    public int beat(boolean below) {
        int no = noSchedule();
        if (no != 0) {
            return no;
        }
        if (graph.inRound > BEAT_FIRINGS) {
            return STATE;
        }
        slowest.know();
        return (int) (below ? slowest.lower : slowest.upper);
    }

    // ---- 4 things

    public int may(int part) {
        Part p = graph.partAt(part);
        if (p == null) {
            return BAD;
        }
        return works.isReady(p) ? 1 : 0;
    }

    public int fire(int part) {
        Part p = graph.partAt(part);
        return p == null ? BAD : withFinding(works.attempt(p));
    }

    public long gave() {
        return works.latestGave;
    }

    public int trace(int i) {
        return works.traceAt(i);
    }

    public int deal(int part, int thread) {
        Part p = graph.partAt(part);
        if (p == null || thread < 0 || thread >= THREADS) {
            return BAD;
        }
        int was = p.thread;
        p.thread = thread;
        plan.beginThreads();
        return was;
    }

    public int go(int thread) {
        if (thread < 0 || thread >= THREADS) {
            return BAD;
        }
        int place = plan.nextPlaceOf(thread);
        if (!plan.has(place)) {
            return STATE;
        }
        Part p = graph.partAt(plan.row[place]);
        if (p == null) {
            return STATE;
        }
        int answer = withFinding(works.attempt(p));
        if (answer == 1) {
            plan.threadNext[thread] = place + 1;
            return p.number;
        }
        return answer == 0 ? NONE : answer;
    }

    public int reset() {
        int were = works.done;
        toFirstMarking();
        return were;
    }

    public int things(int line) {
        Line l = graph.lineAt(line);
        return l == null ? BAD : l.size;
    }

    public int look(int line, int i) {
        Line l = graph.lineAt(line);
        if (l == null) {
            return BAD;
        }
        if (i < 0 || i >= l.size) {
            return meets(BEYOND);
        }
        latestAsked = l.thingAt(i);
        return 1;
    }

    public int given(int line, int i) {
        Line l = graph.lineAt(line);
        if (l == null || i < 0 || i >= MOST_TOLD_GIVEN) {
            return BAD;
        }
        if (i >= l.givenCount) {
            return NONE;
        }
        latestAsked = l.everGiven[i];
        return 1;
    }

    public long asked() {
        return latestAsked;
    }

    public int many(int what) {
        switch (what) {
            case 0:
                return graph.partCount;
            case 1:
                return graph.lineCount;
            case 2:
                return works.done;
            case 3:
                return plan.length == 0 ? NONE : plan.length;
            case 4:
                return draftLength;
            default:
                return BAD;
        }
    }

    public int finding() {
        return latestFinding;
    }

    public int findings(int f) {
        return f < NOTHING || f > SIZE ? BAD : answered[f];
    }

    public long digest() {
        long h = 17;
        for (int p = 0; p < graph.partCount; p++) {
            h = graph.parts[p].digestFrom(h);
        }
        for (int l = 0; l < graph.lineCount; l++) {
            h = graph.lines[l].digestFrom(h);
        }
        for (int i = 0; i < plan.length; i++) {
            h = 31 * h + plan.row[i];
        }
        return h;
    }

    // ---- what several calls share

    private int meets(int finding) {
        latestFinding = finding;
        answered[finding]++;
        return FINDING;
    }

    private int withFinding(int answer) {
        return answer == FINDING ? meets(works.met) : answer;
    }

    /** 0 if there is a ROUND; else what the calls answer that need one. */
    private int noRound() {
        int state = graph.roundState();
        return state == NONE ? STATE : state;
    }

    /** 0 if there is a SCHEDULE; else what the calls answer that need one. */
    private int noSchedule() {
        int state = graph.roundState();
        if (state == Graph.FOUND) {
            return lack.isStuck() ? STATE : 0;
        }
        return state == NONE ? STATE : state;
    }

    private void graphChanged() {
        graph.forgetRound();
        lack.forget();
        slowest.forget();
        brackets.drop();
        plan.drop();
        toFirstMarking();
    }

    private void toFirstMarking() {
        works.toFirst();
        plan.beginThreads();
    }

    private static boolean hasPlaces(long[] places, int from, int n) {
        return from >= 0 && n >= 0 && from <= places.length && n <= places.length - from;
    }

    /** The greatest number that divides both: a, which is above 0, and b, which is not below it. */
    private static long commonDivisor(long a, long b) {
        // Euclid needs fewer than a hundred steps for any two longs.
        for (int step = 0; step < 100 && b != 0; step++) {
            long rest = a % b;
            a = b;
            b = rest;
        }
        return a > 0 ? a : 1;
    }

    /** A PART: what was told of it, its FIRINGS in a ROUND, and what THE STATE holds of it. */
    private static final class Part {
        final int number;
        final int kind;
        final long k;
        final int phases;
        int time = 1;
        int thread;
        int inRound;
        int phase;
        long kept;
        /** A DELAY's ROW as it was told, and as it is in THE STATE: both null without one, else of one length. */
        long[] toldRow;
        long[] row;
        /** The LINES to it and from it, by number, chained by nextIn and nextOut. */
        Line firstIn;
        Line lastIn;
        Line firstOut;
        Line lastOut;

        Part(int number, int kind, long k, int n) {
            this.number = number;
            this.kind = kind;
            this.k = k;
            phases = kind == PHASED ? Math.max(n, 1) : 1;
            if (kind == DELAY) {
                toldRow = new long[Math.max(n, 0)];
                row = new long[Math.max(n, 0)];
            }
        }

        int phaseBehind(int now) {
            return now + 1 < phases ? now + 1 : 0;
        }

        int phaseAhead(int now) {
            return now > 0 ? now - 1 : phases - 1;
        }

        int toldOf(int what) {
            switch (what) {
                case 0:
                    return kind;
                case 1:
                    return phases;
                case 2:
                    return time;
                case 3:
                    return thread;
                default:
                    return toldRow == null ? NONE : toldRow.length;
            }
        }

        void toFirst() {
            phase = 0;
            kept = 0;
            if (toldRow != null && row != null) {
                System.arraycopy(toldRow, 0, row, 0, Math.min(toldRow.length, row.length));
            }
        }

        long digestFrom(long h) {
            for (int what = 0; what <= 4; what++) {
                h = 31 * h + toldOf(what);
            }
            h = 31 * h + phase;
            h = 31 * h + kept;
            if (row != null) {
                for (long place : row) {
                    h = 31 * h + place;
                }
            }
            return h;
        }
    }

    /** A LINE: what was told of it, and the things that are on it in THE STATE. */
    private static final class Line {
        final int number;
        final Part from;
        final Part to;
        /** A COUNT for each PHASE of the PART at that end. */
        final int[] gives;
        final int[] takes;
        final long[] firstThings = new long[MOST_FIRST];
        int firstCount;
        /** The things on it stand from head on, round and round, so that none has to move. */
        final long[] ring = new long[MOST_THINGS];
        int head;
        int size;
        final long[] everGiven = new long[MOST_TOLD_GIVEN];
        int givenCount;
        Line nextIn;
        Line nextOut;

        Line(int number, Part from, int give, Part to, int take) {
            this.number = number;
            this.from = from;
            this.to = to;
            gives = new int[from.phases];
            takes = new int[to.phases];
            Arrays.fill(gives, give);
            Arrays.fill(takes, take);
        }

        int givesIn(int phase) {
            return phase >= 0 && phase < gives.length ? gives[phase] : 0;
        }

        int takesIn(int phase) {
            return phase >= 0 && phase < takes.length ? takes[phase] : 0;
        }

        static int sumOf(int[] counts) {
            int sum = 0;
            for (int count : counts) {
                sum += count;
            }
            return sum;
        }

        int endOf(int what) {
            switch (what) {
                case 0:
                    return from.number;
                case 1:
                    return to.number;
                case 2:
                    return givesIn(0);
                case 3:
                    return takesIn(0);
                default:
                    return firstCount;
            }
        }

        void toFirst() {
            head = 0;
            size = firstCount;
            givenCount = 0;
            System.arraycopy(firstThings, 0, ring, 0, firstCount);
        }

        long thingAt(int i) {
            return i >= 0 && i < size ? ring[(head + i) % MOST_THINGS] : 0;
        }

        void drop(int n) {
            int dropped = Math.max(0, Math.min(n, size));
            head = (head + dropped) % MOST_THINGS;
            size -= dropped;
        }

        void put(long v) {
            if (size >= MOST_THINGS) {
                return;
            }
            ring[(head + size) % MOST_THINGS] = v;
            size++;
            if (givenCount < MOST_TOLD_GIVEN) {
                everGiven[givenCount] = v;
                givenCount++;
            }
        }

        long digestFrom(long h) {
            for (int what = 0; what <= 4; what++) {
                h = 31 * h + endOf(what);
            }
            h = 31 * h + size;
            for (int i = 0; i < size; i++) {
                h = 31 * h + thingAt(i);
            }
            return h;
        }
    }

    /** PARTS and LINES, and the ROUND that they have. */
    private static final class Graph {
        static final int FOUND = 0;

        final Part[] parts = new Part[MOST_PARTS];
        final Line[] lines = new Line[MOST_LINES];
        int partCount;
        int lineCount;
        int inRound;
        int unevenLine = NONE;
        private boolean roundKnown;
        private int state;
        /** PARTS that LINES tie have the same number here: that of one of them. */
        private final int[] group = new int[MOST_PARTS];
        /** Of PARTS a, b in one group: rows of PHASES of a to those of b are proportion(a, b) to proportion(b, a). */
        private final long[] proportions = new long[MOST_PARTS * MOST_PARTS];

        Part partAt(int number) {
            return number < 0 || number >= partCount ? null : parts[number];
        }

        Line lineAt(int number) {
            return number < 0 || number >= lineCount ? null : lines[number];
        }

        int addPart(int kind, long k, int n) {
            int number = partCount;
            parts[number] = new Part(number, kind, k, n);
            partCount++;
            return number;
        }

        int addLine(Part from, int gives, Part to, int takes) {
            int number = lineCount;
            Line added = new Line(number, from, gives, to, takes);
            lines[number] = added;
            lineCount++;
            if (from.lastOut == null) {
                from.firstOut = added;
            } else {
                from.lastOut.nextOut = added;
            }
            from.lastOut = added;
            if (to.lastIn == null) {
                to.firstIn = added;
            } else {
                to.lastIn.nextIn = added;
            }
            to.lastIn = added;
            return number;
        }

        boolean hasPhased() {
            for (int p = 0; p < partCount; p++) {
                if (parts[p].kind == PHASED) {
                    return true;
                }
            }
            return false;
        }

        void forgetRound() {
            roundKnown = false;
        }

        /** FOUND; STATE: no PARTS; NONE: UNEVEN; SPENT. */
        int roundState() {
            if (!roundKnown) {
                state = findRound();
                roundKnown = true;
            }
            return state;
        }

        private int findRound() {
            unevenLine = NONE;
            inRound = 0;
            if (partCount == 0) {
                return STATE;
            }
            for (int p = 0; p < partCount; p++) {
                group[p] = p;
                setProportion(p, p, 1);
            }
            for (int l = 0; l < lineCount; l++) {
                int tied = tie(lines[l]);
                if (tied == NONE) {
                    unevenLine = l;
                }
                if (tied != FOUND) {
                    return tied;
                }
            }
            return countFirings();
        }

        private int tie(Line l) {
            int given = Line.sumOf(l.gives);
            int taken = Line.sumOf(l.takes);
            if (given == 0 && taken == 0) {
                return FOUND;
            }
            if (given == 0 || taken == 0) {
                return NONE;
            }
            int from = l.from.number;
            int to = l.to.number;
            if (group[from] == group[to]) {
                return proportion(from, to) * given == proportion(to, from) * taken ? FOUND : NONE;
            }
            return join(from, to, given, taken);
        }

        /** Ties the groups of two PARTS: SPENT if a proportion has too great a number then. */
        private int join(int from, int to, int given, int taken) {
            int groupTo = group[to];
            for (int a = 0; a < partCount; a++) {
                for (int b = 0; b < partCount; b++) {
                    if (group[a] == group[from] && group[b] == groupTo) {
                        // No factor is above a million, and a sum of COUNTS is at most 200: it can't wrap.
                        long ofA = proportion(a, from) * taken * proportion(to, b);
                        long ofB = proportion(from, a) * given * proportion(b, to);
                        long common = commonDivisor(ofA, ofB);
                        if (ofA / common > MOST_PROPORTION || ofB / common > MOST_PROPORTION) {
                            return SPENT;
                        }
                        setProportion(a, b, ofA / common);
                        setProportion(b, a, ofB / common);
                    }
                }
            }
            for (int b = 0; b < partCount; b++) {
                if (group[b] == groupTo) {
                    group[b] = group[from];
                }
            }
            return FOUND;
        }

        private int countFirings() {
            for (int p = 0; p < partCount; p++) {
                if (group[p] == p) {
                    long rows = fewestRows(p);
                    if (rows > MOST_OF_ONE || !spreadRows(p, rows)) {
                        return SPENT;
                    }
                }
            }
            return inRound > MOST_IN_ROUND ? SPENT : FOUND;
        }

        /** The fewest rows of PHASES of a PART with which all that it is tied to have whole ones, or some number above the limit. */
        private long fewestRows(int part) {
            long rows = 1;
            for (int p = 0; p < partCount && rows <= MOST_OF_ONE; p++) {
                if (group[p] == part) {
                    long unit = proportion(part, p);
                    rows = rows / commonDivisor(rows, unit) * unit;
                }
            }
            return rows;
        }

        private boolean spreadRows(int part, long rows) {
            for (int p = 0; p < partCount; p++) {
                if (group[p] == part) {
                    long firings = rows * proportion(p, part) / Math.max(proportion(part, p), 1) * parts[p].phases;
                    if (firings > MOST_OF_ONE) {
                        return false;
                    }
                    parts[p].inRound = (int) firings;
                    inRound += (int) firings;
                }
            }
            return true;
        }

        private long proportion(int a, int b) {
            return proportions[a * MOST_PARTS + b];
        }

        private void setProportion(int a, int b, long n) {
            proportions[a * MOST_PARTS + b] = n;
        }
    }

    /** A MARKING that goes on FIRING by FIRING, as numbers alone, with the FIRINGS left in the ROUND and the STORES so far. */
    private static final class Marking {
        final Graph graph;
        final int[] on = new int[MOST_LINES];
        final int[] stores = new int[MOST_LINES];
        final int[] left = new int[MOST_PARTS];
        final int[] phases = new int[MOST_PARTS];
        /** How many FIRINGS there were when a PART had fired last; 0: it never did. */
        final int[] firedAt = new int[MOST_PARTS];
        int leftInAll;
        int sumOfStores;
        private int steps;

        Marking(Graph graph) {
            this.graph = graph;
        }

        void begin() {
            steps = 0;
            leftInAll = graph.inRound;
            for (int p = 0; p < graph.partCount; p++) {
                left[p] = graph.parts[p].inRound;
                phases[p] = 0;
                firedAt[p] = 0;
            }
            sumOfStores = 0;
            for (int l = 0; l < graph.lineCount; l++) {
                on[l] = graph.lines[l].firstCount;
                stores[l] = on[l];
                sumOfStores += on[l];
            }
        }

        boolean canFire(Part p) {
            if (left[p.number] <= 0) {
                return false;
            }
            int phase = phases[p.number];
            for (Line l = p.firstIn; l != null; l = l.nextIn) {
                if (on[l.number] < l.takesIn(phase)) {
                    return false;
                }
            }
            return true;
        }

        void step(Part p) {
            int phase = phases[p.number];
            for (Line l = p.firstIn; l != null; l = l.nextIn) {
                on[l.number] -= l.takesIn(phase);
            }
            for (Line l = p.firstOut; l != null; l = l.nextOut) {
                int now = on[l.number] + l.givesIn(phase);
                on[l.number] = now;
                if (now > stores[l.number]) {
                    sumOfStores += now - stores[l.number];
                    stores[l.number] = now;
                }
            }
            phases[p.number] = p.phaseBehind(phase);
            left[p.number]--;
            leftInAll--;
            steps++;
            firedAt[p.number] = steps;
        }

        /** Takes the latest step back, but for the STORES and for which PART fired when. */
        void stepBack(Part p) {
            int phase = p.phaseAhead(phases[p.number]);
            for (Line l = p.firstOut; l != null; l = l.nextOut) {
                on[l.number] -= l.givesIn(phase);
            }
            for (Line l = p.firstIn; l != null; l = l.nextIn) {
                on[l.number] += l.takesIn(phase);
            }
            phases[p.number] = phase;
            left[p.number]++;
            leftInAll++;
            steps--;
        }

        /** Fires all that may. PARTS take nothing from one another, so it ends alike in every order. */
        void exhaust() {
            boolean moved = true;
            for (int turn = 0; turn <= MOST_IN_ROUND && moved; turn++) {
                moved = false;
                for (int p = 0; p < graph.partCount; p++) {
                    Part part = graph.parts[p];
                    for (int n = left[p]; n > 0 && canFire(part); n--) {
                        step(part);
                        moved = true;
                    }
                }
            }
        }

        /** The PART that fires next BY A RULE; null: none may. */
        Part chosenBy(int rule) {
            Part chosen = null;
            int least = 0;
            for (int p = 0; p < graph.partCount; p++) {
                Part part = graph.parts[p];
                if (canFire(part)) {
                    int rank = rankBy(rule, part);
                    if (chosen == null || rank < least) {
                        chosen = part;
                        least = rank;
                    }
                }
            }
            return chosen;
        }

        private int rankBy(int rule, Part p) {
            switch (rule) {
                case 1:
                    return growthBy(p);
                case 2:
                    return firedAt[p.number];
                default:
                    return 0;
            }
        }

        private int growthBy(Part p) {
            int phase = phases[p.number];
            int growth = 0;
            for (Line l = p.firstOut; l != null; l = l.nextOut) {
                growth += l.givesIn(phase);
            }
            for (Line l = p.firstIn; l != null; l = l.nextIn) {
                growth -= l.takesIn(phase);
            }
            return growth;
        }
    }

    /** Whether THE GRAPH is STUCK, and WHAT LACKS. */
    private static final class Lack {
        final Graph graph;
        final Marking ahead;
        /** How many things more than FIRST THINGS each LINE has in a trial; in the end WHAT LACKS. */
        final int[] more = new int[MOST_LINES];
        private boolean stuckKnown;
        private boolean isStuck;
        private boolean moreKnown;

        Lack(Graph graph, Marking ahead) {
            this.graph = graph;
            this.ahead = ahead;
        }

        void forget() {
            stuckKnown = false;
            moreKnown = false;
        }

        boolean isStuck() {
            if (!stuckKnown) {
                Arrays.fill(more, 0);
                isStuck = sticks();
                stuckKnown = true;
            }
            return isStuck;
        }

        int moreOn(int line) {
            if (isStuck() && !moreKnown) {
                fill();
                for (int l = 0; l < graph.lineCount; l++) {
                    lessen(l);
                }
                moreKnown = true;
            }
            return more[line];
        }

        private boolean sticks() {
            ahead.begin();
            for (int l = 0; l < graph.lineCount; l++) {
                ahead.on[l] += more[l];
            }
            ahead.exhaust();
            return ahead.leftInAll > 0;
        }

        private void fill() {
            ahead.begin();
            ahead.exhaust();
            for (int turn = 0; turn <= MOST_IN_ROUND && ahead.leftInAll > 0; turn++) {
                Part waiting = leastLeft();
                if (waiting == null) {
                    return;
                }
                int phase = ahead.phases[waiting.number];
                for (Line l = waiting.firstIn; l != null; l = l.nextIn) {
                    int lacking = Math.max(0, l.takesIn(phase) - ahead.on[l.number]);
                    more[l.number] += lacking;
                    ahead.on[l.number] += lacking;
                }
                ahead.exhaust();
            }
        }

        private Part leastLeft() {
            for (int p = 0; p < graph.partCount; p++) {
                if (ahead.left[p] > 0) {
                    return graph.parts[p];
                }
            }
            return null;
        }

        /** With more things it never sticks sooner, so halving finds what taking away one by one would. */
        private void lessen(int line) {
            int tooFew = -1;
            int enough = more[line];
            for (int step = 0; step < 32 && enough - tooFew > 1; step++) {
                more[line] = (tooFew + enough) / 2;
                if (sticks()) {
                    tooFew = more[line];
                } else {
                    enough = more[line];
                }
            }
            more[line] = enough;
        }
    }

    /** The latest SCHEDULE, and where THREADS are in it. */
    private static final class Plan {
        final Graph graph;
        final Marking ahead;
        final int[] row = new int[MOST_IN_ROUND];
        /** 0: there is no SCHEDULE, since each has a FIRING. */
        int length;
        final int[] stores = new int[MOST_LINES];
        final int[] threadNext = new int[THREADS];

        Plan(Graph graph, Marking ahead) {
            this.graph = graph;
            this.ahead = ahead;
        }

        void drop() {
            length = 0;
        }

        boolean has(int place) {
            return place >= 0 && place < length;
        }

        void beginThreads() {
            Arrays.fill(threadNext, 0);
        }

        /** Only where THE GRAPH is not STUCK. */
        int goByRule(int rule) {
            ahead.begin();
            for (int i = 0; i < graph.inRound && i < row.length; i++) {
                Part next = ahead.chosenBy(rule);
                if (next != null) {
                    row[i] = next.number;
                    ahead.step(next);
                }
            }
            return settle(graph.inRound);
        }

        /** The place at which a row of PARTS is no SCHEDULE; -1: it is one. */
        int faultOf(int[] firings, int n) {
            ahead.begin();
            for (int i = 0; i < n && i < firings.length; i++) {
                Part next = graph.partAt(firings[i]);
                if (next == null || !ahead.canFire(next)) {
                    return i;
                }
                ahead.step(next);
            }
            return ahead.leftInAll > 0 ? n : -1;
        }

        /** Makes a row that is a SCHEDULE the latest one: the sum of its STORES. */
        int adopt(int[] firings, int n) {
            ahead.begin();
            for (int i = 0; i < n && i < firings.length && i < row.length; i++) {
                row[i] = firings[i];
                Part next = graph.partAt(firings[i]);
                if (next != null) {
                    ahead.step(next);
                }
            }
            return settle(n);
        }

        private int settle(int n) {
            length = Math.min(n, row.length);
            System.arraycopy(ahead.stores, 0, stores, 0, stores.length);
            beginThreads();
            return ahead.sumOfStores;
        }

        int onLineBehind(Line l, int firings) {
            int on = l.firstCount;
            int giverPhase = 0;
            int takerPhase = 0;
            for (int i = 0; i < firings && i < length; i++) {
                if (row[i] == l.to.number) {
                    on -= l.takesIn(takerPhase);
                    takerPhase = l.to.phaseBehind(takerPhase);
                }
                if (row[i] == l.from.number) {
                    on += l.givesIn(giverPhase);
                    giverPhase = l.from.phaseBehind(giverPhase);
                }
            }
            return on;
        }

        /** Where the next FIRING of a THREAD stands; NONE: it has no PART, or there is no SCHEDULE. */
        int nextPlaceOf(int thread) {
            for (int i = 0; i < length; i++) {
                int place = (threadNext[thread] + i) % length;
                Part p = graph.partAt(row[place]);
                if (p != null && p.thread == thread) {
                    return place;
                }
            }
            return NONE;
        }
    }

    /** THE LEAST, by TRIES. */
    private static final class Least {
        final Graph graph;
        final Marking ahead;
        final int[] best = new int[LEAST_FIRINGS];
        int tryCount;
        private final int[] path = new int[LEAST_FIRINGS];
        /** The STORES ahead of the TRY at each depth, so that it can be taken back. */
        private final int[] storesAhead = new int[LEAST_FIRINGS * MOST_LINES];
        private int bestSum;
        private int mostTries;
        private boolean spent;

        Least(Graph graph, Marking ahead) {
            this.graph = graph;
            this.ahead = ahead;
        }

        /** Whether that many TRIES are enough; best is THE LEAST then. */
        boolean finds(int tries) {
            mostTries = tries;
            tryCount = 0;
            spent = false;
            bestSum = ABOVE_ALL_SUMS;
            ahead.begin();
            tryAll(0);
            return !spent;
        }

        private void tryAll(int depth) {
            if (depth >= LEAST_FIRINGS) {
                return;
            }
            for (int p = 0; p < graph.partCount && !spent; p++) {
                Part part = graph.parts[p];
                if (ahead.canFire(part)) {
                    tryOne(part, depth);
                }
            }
        }

        private void tryOne(Part p, int depth) {
            if (tryCount >= mostTries) {
                spent = true;
                return;
            }
            tryCount++;
            path[depth] = p.number;
            int sumAhead = ahead.sumOfStores;
            keepStores(p, depth);
            ahead.step(p);
            if (ahead.sumOfStores < bestSum) {
                if (ahead.leftInAll == 0) {
                    bestSum = ahead.sumOfStores;
                    System.arraycopy(path, 0, best, 0, depth + 1);
                } else {
                    tryAll(depth + 1);
                }
            }
            ahead.stepBack(p);
            giveStoresBack(p, depth);
            ahead.sumOfStores = sumAhead;
        }

        private void keepStores(Part p, int depth) {
            for (Line l = p.firstOut; l != null; l = l.nextOut) {
                storesAhead[depth * MOST_LINES + l.number] = ahead.stores[l.number];
            }
        }

        private void giveStoresBack(Part p, int depth) {
            for (Line l = p.firstOut; l != null; l = l.nextOut) {
                ahead.stores[l.number] = storesAhead[depth * MOST_LINES + l.number];
            }
        }
    }

    /** ONCE: PARTS in a row, and its brackets. */
    private static final class Once {
        /** Each PART with its own bracket, and one for each parting, open and closed. */
        private static final int MOST_ITEMS = MOST_PARTS * 3 + MOST_PARTS * 2;

        final Graph graph;
        private final int[] order = new int[MOST_PARTS];
        private final int[] placeOf = new int[MOST_PARTS];
        /** Of the row from place i to place j, at i * MOST_PARTS + j. */
        private final int[] divisor = new int[MOST_PARTS * MOST_PARTS];
        private final int[] leastSum = new int[MOST_PARTS * MOST_PARTS];
        private final int[] firstHalfEnd = new int[MOST_PARTS * MOST_PARTS];
        private final int[] items = new int[MOST_ITEMS];
        private int itemCount;
        private int unrolledCount;

        Once(Graph graph) {
            this.graph = graph;
        }

        void drop() {
            itemCount = 0;
        }

        int itemAt(int i) {
            return i < 0 || i >= itemCount ? NONE : items[i];
        }

        /** Puts the PARTS in a row with its brackets; false: there is a ring, and nothing is changed. */
        boolean arrange() {
            if (!putInOrder()) {
                return false;
            }
            int last = graph.partCount - 1;
            findDivisors();
            for (int span = 1; span <= last; span++) {
                for (int i = 0; i + span <= last; i++) {
                    partInTwo(i, i + span);
                }
            }
            itemCount = 0;
            writeRow(0, last, 1, 0);
            return true;
        }

        /** Writes the FIRINGS of what was arranged into a row. */
        void unrollInto(int[] row) {
            unrolledCount = 0;
            unrollRow(row, 0, graph.partCount - 1, 1, 0);
        }

        private boolean putInOrder() {
            Arrays.fill(placeOf, NONE);
            for (int place = 0; place < graph.partCount; place++) {
                int next = leastFree();
                if (next < 0) {
                    return false;
                }
                order[place] = next;
                placeOf[next] = place;
            }
            return true;
        }

        private int leastFree() {
            for (int p = 0; p < graph.partCount; p++) {
                if (placeOf[p] == NONE && !isFed(graph.parts[p])) {
                    return p;
                }
            }
            return NONE;
        }

        private boolean isFed(Part p) {
            for (Line l = p.firstIn; l != null; l = l.nextIn) {
                if (placeOf[l.from.number] == NONE) {
                    return true;
                }
            }
            return false;
        }

        private void findDivisors() {
            for (int i = 0; i < graph.partCount; i++) {
                int common = graph.parts[order[i]].inRound;
                for (int j = i; j < graph.partCount; j++) {
                    common = (int) commonDivisor(common, graph.parts[order[j]].inRound);
                    divisor[i * MOST_PARTS + j] = common;
                }
                leastSum[i * MOST_PARTS + i] = 0;
            }
        }

        private void partInTwo(int i, int j) {
            int row = i * MOST_PARTS + j;
            leastSum[row] = ABOVE_ALL_SUMS;
            for (int end = i; end < j; end++) {
                int sum = leastSum[i * MOST_PARTS + end] + leastSum[(end + 1) * MOST_PARTS + j] + storesAcross(i, end, j);
                if (sum < leastSum[row]) {
                    leastSum[row] = sum;
                    firstHalfEnd[row] = end;
                }
            }
        }

        private int storesAcross(int i, int end, int j) {
            int times = Math.max(divisor[i * MOST_PARTS + j], 1);
            int sum = 0;
            for (int l = 0; l < graph.lineCount; l++) {
                Line line = graph.lines[l];
                int giver = placeOf[line.from.number];
                int taker = placeOf[line.to.number];
                if (giver >= i && giver <= end && taker > end && taker <= j) {
                    sum += line.from.inRound * line.givesIn(0) / times + line.firstCount;
                }
            }
            return sum;
        }

        /** How often a row is done each time that what it stands in, done outer times in a ROUND, is. */
        private int timesWithin(int i, int j, int outer) {
            return divisor[i * MOST_PARTS + j] / Math.max(outer, 1);
        }

        private void writeRow(int i, int j, int outer, int depth) {
            if (depth > MOST_PARTS) {
                return;
            }
            int times = timesWithin(i, j, outer);
            if (times > 1) {
                writeItem(times + 1);
            }
            if (i == j) {
                writeItem(-1 - order[i]);
            } else {
                int end = firstHalfEnd[i * MOST_PARTS + j];
                writeRow(i, end, outer * times, depth + 1);
                writeRow(end + 1, j, outer * times, depth + 1);
            }
            if (times > 1) {
                writeItem(0);
            }
        }

        private void writeItem(int item) {
            if (itemCount < items.length) {
                items[itemCount] = item;
                itemCount++;
            }
        }

        private void unrollRow(int[] row, int i, int j, int outer, int depth) {
            if (depth > MOST_PARTS) {
                return;
            }
            int times = timesWithin(i, j, outer);
            int end = firstHalfEnd[i * MOST_PARTS + j];
            for (int t = 0; t < times; t++) {
                if (i < j) {
                    unrollRow(row, i, end, outer * times, depth + 1);
                    unrollRow(row, end + 1, j, outer * times, depth + 1);
                } else if (unrolledCount < row.length) {
                    row[unrolledCount] = order[i];
                    unrolledCount++;
                }
            }
        }
    }

    /** THE BEAT: FIRINGS of a ROUND that wait for one another, and the slowest RING of them. */
    private static final class Beat {
        /** Each FIRING waits for its PART's own one ahead, and for one on each LINE. */
        private static final int MOST_WAITS = BEAT_FIRINGS * (MOST_LINES + 1);

        final Graph graph;
        long upper;
        long lower;
        private boolean known;
        /** The number of a PART's FIRING 0 among those of all PARTS. */
        private final int[] base = new int[MOST_PARTS];
        private final int[] timeOf = new int[BEAT_FIRINGS];
        private int nodes;
        private final int[] waiter = new int[MOST_WAITS];
        private final int[] awaited = new int[MOST_WAITS];
        private final int[] roundsBack = new int[MOST_WAITS];
        private int waits;
        private final long[] reached = new long[BEAT_FIRINGS];
        /** The wait by which a FIRING was reached latest; NONE. */
        private final int[] reachedBy = new int[BEAT_FIRINGS];

        Beat(Graph graph) {
            this.graph = graph;
        }

        void forget() {
            known = false;
        }

        /** Only where THE GRAPH is not STUCK and the ROUND has few FIRINGS. */
        void know() {
            if (known) {
                return;
            }
            numberFirings();
            for (int l = 0; l < graph.lineCount; l++) {
                addWaitsOn(graph.lines[l]);
            }
            beginWithOwnRings();
            // Each turn finds a slower RING, of which there is an end.
            boolean slower = true;
            for (int turn = 0; turn < 1000000 && slower; turn++) {
                slower = findSlowerRing();
            }
            known = true;
        }

        private void numberFirings() {
            nodes = 0;
            waits = 0;
            for (int p = 0; p < graph.partCount; p++) {
                Part part = graph.parts[p];
                base[p] = nodes;
                for (int j = 0; j < part.inRound && nodes < BEAT_FIRINGS; j++) {
                    timeOf[nodes] = part.time;
                    nodes++;
                    if (j == 0) {
                        addWait(base[p], base[p] + part.inRound - 1, 1);
                    } else {
                        addWait(base[p] + j, base[p] + j - 1, 0);
                    }
                }
            }
        }

        private void addWait(int waiting, int on, int back) {
            if (waits < MOST_WAITS && waiting < BEAT_FIRINGS && on < BEAT_FIRINGS) {
                waiter[waits] = waiting;
                awaited[waits] = on;
                roundsBack[waits] = back;
                waits++;
            }
        }

        private void addWaitsOn(Line l) {
            int inRound = Line.sumOf(l.gives) * (l.from.inRound / Math.max(l.from.phases, 1));
            if (inRound <= 0) {
                return;
            }
            int taken = 0;
            int phase = 0;
            for (int j = 0; j < l.to.inRound; j++) {
                int takes = l.takesIn(phase);
                phase = l.to.phaseBehind(phase);
                taken += takes;
                if (takes > 0) {
                    int needed = taken - l.firstCount;
                    int round = Math.floorDiv(needed - 1, inRound);
                    int giver = firingThatReaches(l, needed - round * inRound);
                    addWait(base[l.to.number] + j, base[l.from.number] + giver, -round);
                }
            }
        }

        /** The first FIRING in a ROUND with which so many things have been given in it. */
        private int firingThatReaches(Line l, int needed) {
            int given = 0;
            int phase = 0;
            for (int m = 0; m < l.from.inRound; m++) {
                given += l.givesIn(phase);
                phase = l.from.phaseBehind(phase);
                if (given >= needed) {
                    return m;
                }
            }
            return Math.max(l.from.inRound - 1, 0);
        }

        private void beginWithOwnRings() {
            upper = 0;
            lower = 1;
            for (int p = 0; p < graph.partCount; p++) {
                Part part = graph.parts[p];
                upper = Math.max(upper, (long) part.time * part.inRound);
            }
        }

        /** A RING is slower than the slowest so far if its sum of TIMES, less its ROUNDS at that beat, is above 0. */
        private boolean findSlowerRing() {
            Arrays.fill(reached, 0L);
            Arrays.fill(reachedBy, NONE);
            int latest = NONE;
            for (int pass = 0; pass <= nodes; pass++) {
                latest = reachFurther();
                if (latest < 0) {
                    return false;
                }
            }
            // What is still reached further behind so many passes hangs on a RING: so many waits back it is in it.
            int inRing = latest;
            for (int step = 0; step < nodes; step++) {
                if (inRing < 0 || reachedBy[inRing] < 0) {
                    return false;
                }
                inRing = awaited[reachedBy[inRing]];
            }
            return takeRing(inRing);
        }

        /** Goes over all waits once: a FIRING that was reached further by it, NONE if none was. */
        private int reachFurther() {
            int latest = NONE;
            for (int w = 0; w < waits; w++) {
                int on = awaited[w];
                long reach = reached[on] + lower * timeOf[on] - upper * roundsBack[w];
                if (reach > reached[waiter[w]]) {
                    reached[waiter[w]] = reach;
                    reachedBy[waiter[w]] = w;
                    latest = waiter[w];
                }
            }
            return latest;
        }

        private boolean takeRing(int start) {
            long times = 0;
            long rounds = 0;
            int at = start;
            for (int step = 0; step < nodes; step++) {
                int w = reachedBy[at];
                if (w < 0) {
                    return false;
                }
                at = awaited[w];
                times += timeOf[at];
                rounds += roundsBack[w];
                if (at == start) {
                    break;
                }
            }
            if (rounds <= 0) {
                return false;
            }
            long common = commonDivisor(rounds, times);
            upper = times / common;
            lower = rounds / common;
            return true;
        }
    }

    /** THE STATE: FIRINGS with the things themselves. */
    private static final class Works {
        private static final int MOST_BODIES = 3;

        final Graph graph;
        int done;
        long latestGave;
        /** The FINDING that the latest WORK met; 0: none. */
        int met;
        /** The sum of all that the WORK at hand took. */
        private long taken;
        private final int[] traced = new int[MOST_BODIES];
        private int traceLength;

        Works(Graph graph) {
            this.graph = graph;
        }

        void toFirst() {
            done = 0;
            for (int p = 0; p < graph.partCount; p++) {
                graph.parts[p].toFirst();
            }
            for (int l = 0; l < graph.lineCount; l++) {
                graph.lines[l].toFirst();
            }
        }

        int traceAt(int i) {
            return i < 0 || i >= traceLength ? NONE : traced[i];
        }

        boolean isReady(Part p) {
            for (Line l = p.firstIn; l != null; l = l.nextIn) {
                if (l.size < l.takesIn(p.phase)) {
                    return false;
                }
            }
            return true;
        }

        /** 1: it fired; 0: it may not; STATE; FINDING: met tells which. */
        int attempt(Part p) {
            if (done >= MOST_DONE) {
                return STATE;
            }
            if (!isReady(p)) {
                return 0;
            }
            if (wouldOverflow(p)) {
                return STATE;
            }
            traceLength = 0;
            met = 0;
            taken = sumTaken(p);
            long v = workOf(p);
            if (met != 0) {
                return FINDING;
            }
            move(p, v);
            done++;
            latestGave = v;
            return 1;
        }

        private boolean wouldOverflow(Part p) {
            for (Line l = p.firstOut; l != null; l = l.nextOut) {
                int taken = l.to == p ? l.takesIn(p.phase) : 0;
                if (l.size - taken + l.givesIn(p.phase) > MOST_THINGS) {
                    return true;
                }
            }
            return false;
        }

        private void move(Part p, long v) {
            for (Line l = p.firstIn; l != null; l = l.nextIn) {
                l.drop(l.takesIn(p.phase));
            }
            for (Line l = p.firstOut; l != null; l = l.nextOut) {
                int gives = l.givesIn(p.phase);
                for (int i = 0; i < gives; i++) {
                    l.put(v + i);
                }
            }
            p.phase = p.phaseBehind(p.phase);
        }

        private long workOf(Part p) {
            switch (p.kind) {
                case SCALED:
                    return scaledBody(p);
                case KEEPER:
                    return keeperBody(p);
                case SHARE:
                    return shareBody(p);
                case PHASED:
                    return phasedBody(p);
                case DELAY:
                    return delayBody(p);
                default:
                    return fixedBody(p);
            }
        }

        private void writeTrace(int body) {
            if (traceLength < MOST_BODIES) {
                traced[traceLength] = body;
                traceLength++;
            }
        }

        private long fixedBody(Part p) {
            writeTrace(1);
            return taken + p.k;
        }

        private long scaledBody(Part p) {
            writeTrace(2);
            return p.k * fixedBody(p);
        }

        private long keeperBody(Part p) {
            writeTrace(3);
            p.kept += scaledBody(p);
            return p.kept;
        }

        private long shareBody(Part p) {
            writeTrace(4);
            long whole = scaledBody(p);
            // A LINE to a SHARE always takes a thing, so the least LINE has the first one.
            long by = p.firstIn == null ? 0 : p.firstIn.thingAt(0);
            if (by == 0) {
                met = NOUGHT;
                return 0;
            }
            return whole / by;
        }

        private long phasedBody(Part p) {
            writeTrace(5);
            return fixedBody(p) + p.phase;
        }

        private long delayBody(Part p) {
            writeTrace(6);
            if (p.row == null) {
                met = NOTHING;
                return 0;
            }
            long comes = fixedBody(p);
            if (p.row.length == 0) {
                return comes;
            }
            int last = p.row.length - 1;
            long goes = p.row[0];
            System.arraycopy(p.row, 1, p.row, 0, last);
            p.row[last] = comes;
            return goes;
        }

        private long sumTaken(Part p) {
            long sum = 0;
            for (Line l = p.firstIn; l != null; l = l.nextIn) {
                int takes = l.takesIn(p.phase);
                for (int i = 0; i < takes; i++) {
                    sum += l.thingAt(i);
                }
            }
            return sum;
        }
    }
}
