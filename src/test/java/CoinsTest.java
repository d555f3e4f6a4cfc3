import java.util.HashMap;
import java.util.Map;

/** Promise 24 by search: every weighing of few coins is tried, so that no formula is believed. */
public final class CoinsTest {
    private static final int NEVER = 1000;
    private static final int MOST = 14;
    private final int n;
    private final Map<Integer, Integer> known = new HashMap<>();

    private CoinsTest(int n) {
        this.n = n;
    }

    public static void main(String[] args) {
        SaltFigures x = new SaltFigures();
        for (int n = 1; n <= MOST; n++) {
            CoinsTest coins = new CoinsTest(n);
            int either = coins.fewest(n, 0, 0);
            Checks.due("24: coins(" + n + ", 0)", x.coins(n, 0), either >= NEVER ? -1 : either);
            Checks.due("24: coins(" + n + ", 1)", x.coins(n, 1), coins.fewest(0, n, 0));
        }
        Checks.finish();
    }

    /** Of u coins any may be too heavy or too light, of h each may be too heavy, of l each too light; the rest is good. */
    private int fewest(int u, int h, int l) {
        if (u + h + l <= 1) {
            return 0;
        }
        int key = (u * 100 + h) * 100 + l;
        Integer before = known.get(key);
        if (before != null) {
            return before;
        }
        // What is thought of again within itself does not help: it would be the same weighing for nothing.
        known.put(key, NEVER);
        int best = NEVER;
        for (int u1 = 0; u1 <= u; u1++) {
            for (int u2 = 0; u1 + u2 <= u; u2++) {
                for (int h1 = 0; h1 <= h; h1++) {
                    for (int h2 = 0; h1 + h2 <= h; h2++) {
                        best = Math.min(best, bestOfLight(u, h, l, u1, u2, h1, h2));
                    }
                }
            }
        }
        known.put(key, best);
        return best;
    }

    private int bestOfLight(int u, int h, int l, int u1, int u2, int h1, int h2) {
        int best = NEVER;
        int good = n - u - h - l;
        for (int l1 = 0; l1 <= l; l1++) {
            for (int l2 = 0; l1 + l2 <= l; l2++) {
                int more = Math.abs(u1 + h1 + l1 - u2 - h2 - l2);
                boolean nothing = u1 + u2 + h1 + h2 + l1 + l2 == 0;
                if (!nothing && more <= good) {
                    int even = fewest(u - u1 - u2, h - h1 - h2, l - l1 - l2);
                    int left = fewest(0, u1 + h1, u2 + l2);
                    int right = fewest(0, u2 + h2, u1 + l1);
                    best = Math.min(best, 1 + Math.max(even, Math.max(left, right)));
                }
            }
        }
        return Math.min(best, NEVER);
    }
}
