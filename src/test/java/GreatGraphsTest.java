import java.util.Random;

/** Graphs near the limits, for which random runs are too small: ONCE of up to 12 PARTS, THE BEAT of up to 60 FIRINGS, WHAT LACKS. */
public final class GreatGraphsTest {
    private static int wrong;
    private static int held;

    public static void main(String[] args) {
        int runs = args.length > 0 ? Integer.parseInt(args[0]) : 150;
        Random random = new Random(11);
        for (int run = 0; run < runs && wrong < 10; run++) {
            once(run, random, run % 10 == 0 ? 12 : 4 + random.nextInt(6));
            beat(run, random);
            lacks(run, random);
        }
        fullBrackets();
        System.out.println(wrong == 0 ? held + " answers are as due" : wrong + " answers are not as due");
        if (wrong != 0) {
            System.exit(1);
        }
    }

    private static void same(String what, long got, long due) {
        held++;
        if (got != due) {
            wrong++;
            System.out.println(what + " answered " + got + ", due is " + due);
        }
    }

    private static int gcd(int a, int b) {
        return b == 0 ? a : gcd(b, a % b);
    }

    /** A LINE that fits to the FIRINGS of its PARTS, if its COUNTS are not too great. */
    private static void tie(EvenFlow x, PlainFlow y, int[] firings, int from, int to) {
        int c = gcd(firings[from], firings[to]);
        x.line(from, firings[to] / c, to, firings[from] / c);
        y.line(from, firings[to] / c, to, firings[from] / c);
    }

    private static void once(int run, Random random, int parts) {
        EvenFlow x = new EvenFlow();
        PlainFlow y = new PlainFlow();
        int[] firings = new int[parts];
        int[] some = {1, 2, 3, 4, 6, 8, 9, 12, 16, 18, 24, 36, 48, 5, 10, 20, 40};
        for (int p = 0; p < parts; p++) {
            firings[p] = some[random.nextInt(some.length)];
            x.part(0, 0, 0);
            y.part(0, 0, 0);
        }
        for (int l = 0; l < 20; l++) {
            int a = random.nextInt(parts);
            int b = random.nextInt(parts);
            if (a != b) {
                tie(x, y, firings, Math.min(a, b), Math.max(a, b));
            }
        }
        for (int l = 0; l < y.lines.size(); l++) {
            int n = Math.max(0, random.nextInt(20) - 10);
            x.first(l, n);
            y.first(l, n);
        }
        String what = "once " + run;
        same(what, x.once(), y.once());
        for (int i = 0; i < 64; i++) {
            same(what + " bracket " + i, x.bracket(i), y.bracket(i));
        }
        same(what + " digest", x.digest(), y.digest());
    }

    private static void beat(int run, Random random) {
        EvenFlow x = new EvenFlow();
        PlainFlow y = new PlainFlow();
        int parts = 2 + random.nextInt(11);
        int[] firings = new int[parts];
        for (int p = 0; p < parts; p++) {
            firings[p] = 1 + random.nextInt(60 / parts);
            x.part(0, 0, 0);
            y.part(0, 0, 0);
            int t = random.nextInt(4) == 0 ? random.nextInt(1001) : random.nextInt(20);
            x.time(p, t);
            y.time(p, t);
        }
        for (int l = 0; l < 20; l++) {
            tie(x, y, firings, random.nextInt(parts), random.nextInt(parts));
        }
        String what = "beat " + run;
        for (int l = 0; l < y.lines.size(); l++) {
            int n = Math.min(60, y.lacks(l) + random.nextInt(3));
            x.first(l, n);
            y.first(l, n);
        }
        same(what + " upper", x.beat(false), y.beat(false));
        same(what + " lower", x.beat(true), y.beat(true));
    }

    private static void lacks(int run, Random random) {
        EvenFlow x = new EvenFlow();
        PlainFlow y = new PlainFlow();
        int parts = 2 + random.nextInt(7);
        int[] firings = new int[parts];
        for (int p = 0; p < parts; p++) {
            firings[p] = 1 + random.nextInt(30);
            x.part(0, 0, 0);
            y.part(0, 0, 0);
        }
        for (int l = 0; l < 2 * parts; l++) {
            tie(x, y, firings, random.nextInt(parts), random.nextInt(parts));
        }
        for (int l = 0; l < y.lines.size(); l++) {
            same("lacks " + run + " on " + l, x.lacks(l), y.lacks(l));
        }
    }

    /** Two graphs of 12 PARTS with brackets, row in row: of the second one 11 PARTS and 9 rows have brackets of their own. */
    private static void fullBrackets() {
        fullBrackets(34, 1, 32, 16, 48, 24, 8, 40, 20, 4, 28, 14, 2);
        fullBrackets(52, 12, 20, 6, 1, 10, 12, 40, 48, 160, 192, 640, 768);
    }

    private static void fullBrackets(int items, int... firings) {
        EvenFlow x = new EvenFlow();
        PlainFlow y = new PlainFlow();
        for (int p = 0; p < 12; p++) {
            x.part(0, 0, 0);
            y.part(0, 0, 0);
        }
        for (int p = 0; p < 11; p++) {
            tie(x, y, firings, p, p + 1);
        }
        same("full once", x.once(), y.once());
        same("full brackets", y.once.size(), items);
        for (int i = 0; i < 64; i++) {
            same("full bracket " + i, x.bracket(i), y.bracket(i));
        }
        same("full digest", x.digest(), y.digest());
    }
}
