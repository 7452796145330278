import java.lang.reflect.InvocationTargetException;
import java.lang.reflect.Method;
import java.util.ArrayList;
import java.util.Arrays;
import java.util.HashMap;
import java.util.List;
import java.util.Map;
import java.util.Random;

/** Random runs of calls (always the same ones), each answer held against PlainFlow's. Arguments: how many runs, the first seed. */
public final class ModelTest {
    private static final Map<String, Method> OWN = methodsOf(EvenFlow.class), PLAIN = methodsOf(PlainFlow.class);
    private static final String[] BUILDING = {"part", "line", "line", "count", "count", "first", "first", "thing", "row", "copy", "tear"};
    private static final String[] ASKING = {"told", "is", "ends", "round", "firings", "uneven", "stuck", "lacks", "lacks", "schedule",
        "schedule", "least", "tries", "once", "bracket", "firing", "store", "marking", "draft", "check", "time", "beat", "beat", "deal",
        "may", "many", "finding", "findings", "digest", "reset", "given", "look", "asked"};
    private static final String[] WORKING = {"fire", "fire", "fire", "fire", "go", "go", "go", "go", "gave", "trace", "trace", "things",
        "look", "given", "asked", "may", "digest"};

    private final Random random;
    private final EvenFlow own = new EvenFlow();
    private final PlainFlow plain = new PlainFlow();
    private final List<String> history = new ArrayList<>();
    private static final Map<String, int[]> seen = new HashMap<>();

    private ModelTest(long seed) {
        random = new Random(seed);
    }

    private static Map<String, Method> methodsOf(Class<?> c) {
        Map<String, Method> all = new HashMap<>();
        for (Method m : c.getDeclaredMethods()) {
            if (!m.isSynthetic() && !java.lang.reflect.Modifier.isPrivate(m.getModifiers())) all.put(m.getName(), m);
        }
        return all;
    }

    public static void main(String[] args) throws Exception {
        int runs = args.length > 0 ? Integer.parseInt(args[0]) : 1500;
        int from = args.length > 1 ? Integer.parseInt(args[1]) : 1;
        int wrong = 0;
        for (int seed = from; seed < from + runs && wrong < 5; seed++) {
            ModelTest t = new ModelTest(seed);
            String fault = t.run();
            if (fault != null) {
                wrong++;
                System.out.println("seed " + seed + ": " + fault);
                for (String call : t.history) System.out.println("    " + call);
            }
        }
        if (args.length > 2) {
            for (Map.Entry<String, int[]> e : new java.util.TreeMap<>(seen).entrySet()) System.out.println(e.getKey() + ": " + e.getValue()[0]);
        }
        System.out.println(wrong == 0 ? runs + " random runs are as due" : wrong + " random runs are not as due");
        if (wrong != 0) System.exit(1);
    }

    private String run() throws Exception {
        int mode = random.nextInt(4);
        String fault = mode == 3 && random.nextBoolean() ? buildSteep() : buildEven();
        if (fault == null && mode == 2) fault = prepareThreads();
        int building = mode == 0 ? 6 : 1;
        int asking = mode == 2 ? 25 : 55;
        int calls = 60 + random.nextInt(200);
        for (int i = 0; i < calls && fault == null; i++) {
            int of = random.nextInt(100);
            String[] names = of < building ? BUILDING : of < asking ? ASKING : WORKING;
            String name = names[random.nextInt(names.length)];
            fault = call(name, argsFor(name));
            if (fault == null && name.equals("schedule") && random.nextInt(3) == 0) fault = draftSchedule();
        }
        return fault == null ? call("digest") : fault;
    }

    /** PARTS in proportions that soon have great numbers. */
    private String buildSteep() throws Exception {
        int[] counts = {1, 1, 2, 3, 7, 10, 20, 25, 49, 50};
        int parts = 2 + random.nextInt(8);
        String fault = null;
        for (int p = 0; p < parts && fault == null; p++) {
            fault = call("part", random.nextInt(4) == 0 ? 4 : 0, 1L, 1 + random.nextInt(4));
        }
        int lines = 1 + random.nextInt(parts + 1);
        for (int l = 0; l < lines && fault == null; l++) {
            int a = random.nextInt(parts), b = random.nextInt(parts);
            fault = call("line", a, counts[random.nextInt(10)], b, counts[random.nextInt(10)]);
            if (fault == null) fault = call("round");
            if (fault == null) fault = call("uneven");
            if (fault == null) fault = call("firings", a);
            if (fault == null) fault = call("schedule", 0);
        }
        return fault;
    }

    /** What sticks gets what it lacks; then THREADS have PARTS. */
    private String prepareThreads() throws Exception {
        String fault = call("stuck");
        for (int l = 0; l < plain.lines.size() && fault == null; l++) {
            int lack = plain.lacks(l);
            int now = plain.ends(l, 4);
            if (lack > 0 && now + lack <= 60) fault = call("first", l, now + lack);
        }
        for (int p = 0; p < plain.parts.size() && fault == null; p++) {
            fault = call("deal", p, random.nextInt(4));
        }
        return fault == null ? call("schedule", random.nextInt(3)) : fault;
    }

    /** A GRAPH of which most LINES fit together; some runs begin with none. */
    private String buildEven() throws Exception {
        if (random.nextInt(12) == 0) return null;
        int parts = 1 + random.nextInt(random.nextInt(8) == 0 ? 12 : 5);
        int[] rows = new int[parts];
        int most = random.nextInt(5) == 0 ? 12 : 4;
        boolean phased = random.nextBoolean();
        int[] phases = new int[parts];
        for (int p = 0; p < parts; p++) {
            rows[p] = 1 + random.nextInt(most);
            int kind = random.nextInt(6);
            if (kind == 4 && !phased) kind = 0;
            phases[p] = kind == 4 ? 1 + random.nextInt(4) : 1;
            String fault = call("part", kind, smallLong(), kind == 4 ? phases[p] : kind == 5 ? random.nextInt(5) : random.nextInt(20) - 5);
            if (fault != null) return fault;
        }
        boolean rings = random.nextInt(3) > 0;
        int lines = random.nextInt(Math.min(20, 2 * parts) + 1);
        for (int l = 0; l < lines; l++) {
            String fault = evenLine(rows, phases, rings);
            if (fault != null) return fault;
        }
        return null;
    }

    private String evenLine(int[] rows, int[] phases, boolean rings) throws Exception {
        int from = random.nextInt(rows.length), to = random.nextInt(rows.length);
        if (!rings && from == to) return null;
        if (!rings && from > to) {
            int swap = from;
            from = to;
            to = swap;
        }
        // Rows times phases times count on one side is that on the other.
        long f = (long) rows[from] * phases[from], t = (long) rows[to] * phases[to];
        long c = gcd(f, t);
        int times = 1 + random.nextInt(2);
        int gives = (int) (t / c * times), takes = (int) (f / c * times);
        if (gives > 50 || takes > 50) return null;
        String fault = call("line", from, gives, to, takes);
        int line = plain.lines.size() - 1;
        if (fault == null && phases[from] > 1) fault = shiftCounts(line, false, phases[from], gives);
        if (fault == null && phases[to] > 1) fault = shiftCounts(line, true, phases[to], takes);
        if (fault == null && random.nextInt(3) > 0) fault = call("first", line, random.nextInt(random.nextInt(4) == 0 ? 61 : 8));
        if (fault == null && random.nextInt(4) == 0) fault = call("thing", line, random.nextInt(3), smallLong());
        return fault;
    }

    /** Other COUNTS for the PHASES with the same sum. */
    private String shiftCounts(int line, boolean taking, int phases, int each) throws Exception {
        if (random.nextInt(3) == 0) return null;
        int a = random.nextInt(phases), b = random.nextInt(phases);
        int n = random.nextInt(each + 1);
        if (a == b || each + n > 50) return null;
        String fault = call("count", line, taking, a, each + n);
        return fault == null ? call("count", line, taking, b, each - n) : fault;
    }

    private static long gcd(long a, long b) {
        return b == 0 ? a : gcd(b, a % b);
    }

    /** The latest SCHEDULE as a draft, sometimes with a fault. */
    private String draftSchedule() throws Exception {
        if (plain.schedule == null || plain.schedule.size() > 60) return null;
        List<Integer> row = new ArrayList<>(plain.schedule);
        int how = random.nextInt(4);
        if (how == 0) java.util.Collections.swap(row, random.nextInt(row.size()), random.nextInt(row.size()));
        if (how == 1) row.remove(row.size() - 1);
        if (how == 2) row.add(random.nextInt(plain.parts.size()));
        for (int p : row) {
            String fault = call("draft", p);
            if (fault != null) return fault;
        }
        return call("check");
    }

    private long smallLong() {
        int how = random.nextInt(12);
        if (how == 0) return random.nextLong();
        if (how == 1) return Long.MIN_VALUE;
        if (how == 2) return Long.MAX_VALUE;
        return random.nextInt(9) - 3;
    }

    private int near(int count) {
        if (random.nextInt(200) == 0) return random.nextBoolean() ? Integer.MAX_VALUE : Integer.MIN_VALUE + random.nextInt(2);
        return random.nextInt(15) == 0 ? random.nextInt(count + 3) - 1 : random.nextInt(Math.max(count, 1));
    }

    private Object[] argsFor(String name) {
        int p = near(plain.parts.size()), q = near(plain.parts.size()), l = near(plain.lines.size());
        switch (name) {
            case "part": return new Object[] {random.nextInt(20) == 0 ? random.nextInt(9) - 1 : random.nextInt(6), smallLong(), random.nextInt(10) == 0 ? random.nextInt(16) - 2 : 1 + random.nextInt(4)};
            case "line": return new Object[] {p, count(), q, count()};
            case "count": return new Object[] {l, random.nextBoolean(), near(4), random.nextInt(20) == 0 ? random.nextInt(60) - 5 : random.nextInt(5)};
            case "first": return new Object[] {l, random.nextInt(8) == 0 ? random.nextInt(70) - 5 : random.nextInt(9)};
            case "thing": return new Object[] {l, near(5), smallLong()};
            case "row": return new Object[] {delay(p), near(5), smallLong()};
            case "copy": return new Object[] {delay(p), near(4), delay(q), near(4), random.nextInt(30) == 0 ? Integer.MAX_VALUE : near(4)};
            case "told": return new Object[] {p, near(5)};
            case "is": return new Object[] {p, near(6)};
            case "ends": return new Object[] {l, near(5)};
            case "schedule": return new Object[] {near(3)};
            case "least": return new Object[] {random.nextInt(3) == 0 ? random.nextInt(60) : random.nextInt(1500)};
            case "bracket": case "firing": return new Object[] {near(plain.schedule == null ? 2 : plain.schedule.size())};
            case "marking": return new Object[] {near(plain.schedule == null ? 2 : plain.schedule.size() + 1), l};
            case "time": return new Object[] {p, random.nextInt(10) == 0 ? random.nextInt(1100) - 50 : random.nextInt(12)};
            case "beat": return new Object[] {random.nextBoolean()};
            case "deal": return new Object[] {p, near(4)};
            case "trace": return new Object[] {near(4)};
            case "go": return new Object[] {random.nextInt(20) == 0 ? near(4) : usedThread()};
            case "look": return new Object[] {l, near(6)};
            case "given": return new Object[] {l, random.nextInt(10) == 0 ? random.nextInt(210) - 5 : random.nextInt(8)};
            case "many": return new Object[] {near(5)};
            case "findings": return new Object[] {near(5) + 1};
            case "firings": case "draft": case "may": case "fire": return new Object[] {p};
            case "tear": return new Object[] {delay(p)};
            case "lacks": case "store": case "things": return new Object[] {l};
            default: return new Object[0];
        }
    }

    private int count() {
        return random.nextInt(20) == 0 ? random.nextInt(54) - 1 : 1 + random.nextInt(4);
    }

    private int usedThread() {
        return plain.parts.isEmpty() ? 0 : plain.parts.get(random.nextInt(plain.parts.size())).thread;
    }

    /** A DELAY for most calls that want one. */
    private int delay(int otherwise) {
        if (random.nextInt(6) == 0) return otherwise;
        for (int p = 0; p < plain.parts.size(); p++) {
            if (plain.parts.get(p).kind == 5 && random.nextBoolean()) return p;
        }
        return otherwise;
    }

    /** null, or what is wrong with the answer. */
    private String call(String name, Object... args) throws Exception {
        Object got, due;
        String told = name + Arrays.toString(args);
        try {
            due = PLAIN.get(name).invoke(plain, args);
            got = OWN.get(name).invoke(own, args);
        } catch (InvocationTargetException e) {
            history.add(told);
            e.getCause().printStackTrace(System.out);
            return told + " threw " + e.getCause();
        }
        history.add(told + " = " + got);
        long v = ((Number) due).longValue();
        seen.computeIfAbsent(name + " " + (v >= 0 || v < -9 ? "answered" : v), k -> new int[1])[0]++;
        return got.equals(due) ? null : told + " answered " + got + ", due is " + due;
    }
}
