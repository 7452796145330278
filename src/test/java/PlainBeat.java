import java.util.ArrayList;
import java.util.Arrays;
import java.util.List;

/** THE BEAT in another way than EvenFlow's: waits of one ROUND each, and Karp's greatest mean of a ring. */
final class PlainBeat {
    private static final long NO_WAY = Long.MIN_VALUE / 4;

    private final PlainFlow flow;
    private final int[] firings;
    private final List<int[]> waits = new ArrayList<>();
    private final int[] base;
    private final int nodes;

    private PlainBeat(PlainFlow flow, int[] firings) {
        this.flow = flow;
        this.firings = firings;
        base = new int[firings.length];
        int n = 0;
        for (int p = 0; p < firings.length; p++) {
            base[p] = n;
            n += firings[p];
        }
        nodes = n;
    }

    /** The upper and the lower number. */
    static int[] of(PlainFlow flow, int[] firings) {
        PlainBeat b = new PlainBeat(flow, firings);
        b.findWaits();
        return b.greatestMean();
    }

    /** Things ever given (or taken) with FIRINGS 0 .. m; below 0 when m is in a ROUND before. */
    private static long ever(int[] counts, int m) {
        long sum = 0;
        for (int i = 0; i <= m; i++) sum += counts[Math.floorMod(i, counts.length)];
        for (int i = -1; i > m; i--) sum -= counts[Math.floorMod(i, counts.length)];
        return sum;
    }

    private void findWaits() {
        for (int p = 0; p < firings.length; p++) {
            for (int j = 0; j < firings[p]; j++) {
                waitFor(p, j, p, j - 1);
                for (PlainFlow.Line l : flow.lines) {
                    if (l.to != p || l.takes[j % l.takes.length] == 0) continue;
                    long needed = ever(l.takes, j) - l.first.size();
                    int m = j;
                    while (ever(l.gives, m) >= needed) m--;
                    while (ever(l.gives, m) < needed) m++;
                    waitFor(p, j, l.from, m);
                }
            }
        }
    }

    private void waitFor(int p, int j, int q, int m) {
        waits.add(new int[] {base[q] + Math.floorMod(m, firings[q]), base[p] + j, -Math.floorDiv(m, firings[q])});
    }

    private long timeOf(int node) {
        int p = 0;
        while (p + 1 < base.length && base[p + 1] <= node) p++;
        return flow.parts.get(p).time;
    }

    private int[] greatestMean() {
        long[][] within = new long[nodes][nodes];
        for (long[] row : within) Arrays.fill(row, NO_WAY);
        for (int i = 0; i < nodes; i++) within[i][i] = 0;
        for (int pass = 0; pass < nodes; pass++) {
            for (int[] w : waits) {
                if (w[2] < 0) throw new IllegalStateException("a wait goes forth");
                if (w[2] != 0) continue;
                for (int i = 0; i < nodes; i++) {
                    if (within[i][w[0]] > NO_WAY) within[i][w[1]] = Math.max(within[i][w[1]], within[i][w[0]] + timeOf(w[0]));
                }
            }
        }
        int all = nodes;
        List<long[]> steps = new ArrayList<>();
        for (int[] w : waits) {
            if (w[2] == 0) continue;
            int from = w[0], last = w[1];
            int at = w[2] == 1 ? last : all++;
            for (int i = 0; i < nodes; i++) {
                if (within[i][from] > NO_WAY) steps.add(new long[] {i, at, within[i][from] + timeOf(from)});
            }
            for (int r = 2; r <= w[2]; r++) {
                int next = r == w[2] ? last : all++;
                steps.add(new long[] {at, next, 0});
                at = next;
            }
        }
        return karp(all, steps);
    }

    private static int[] karp(int n, List<long[]> steps) {
        long[][] far = new long[n + 1][n];
        for (int k = 1; k <= n; k++) {
            Arrays.fill(far[k], NO_WAY);
            for (long[] s : steps) {
                if (far[k - 1][(int) s[0]] > NO_WAY) far[k][(int) s[1]] = Math.max(far[k][(int) s[1]], far[k - 1][(int) s[0]] + s[2]);
            }
        }
        long up = -1, low = 1;
        for (int v = 0; v < n; v++) {
            if (far[n][v] == NO_WAY) continue;
            long u = 0, w = 0;
            for (int k = 0; k < n; k++) {
                if (far[k][v] == NO_WAY) continue;
                long x = far[n][v] - far[k][v], y = n - k;
                if (w == 0 || x * w < u * y) {
                    u = x;
                    w = y;
                }
            }
            if (u * low > up * w) {
                up = u;
                low = w;
            }
        }
        long a = low, b = up;
        while (b != 0) {
            long rest = a % b;
            a = b;
            b = rest;
        }
        return new int[] {(int) (up / a), (int) (low / a)};
    }
}
