import java.util.ArrayList;
import java.util.List;

/**
 * Shares once more, by another way than the class and the plain reading go. Sets with weights
 * that hold each side just once, and that cannot do so with fewer sets, tell how much all must
 * have; a whole share is the calm one if at each height the sets that complain at least so much
 * can be held so together, each of them in some way.
 */
public final class BalanceTest {
    private static final int GAMES = 600;
    // How many such few sets there are for 1 to 4 sides is well known.
    private static final int[] WELL_KNOWN = {0, 1, 2, 6, 42};

    /** Some sets and what each weighs. */
    private record Held(int[] sets, Ratio[] weights) {
        Ratio worth(int[] worths) {
            Ratio sum = Ratio.ZERO;
            for (int k = 0; k < sets.length; k++) {
                sum = sum.plus(weights[k].times(Ratio.of(worths[sets[k]])));
            }
            return sum;
        }

        Ratio together() {
            Ratio sum = Ratio.ZERO;
            for (Ratio weight : weights) {
                sum = sum.plus(weight);
            }
            return sum;
        }

        boolean has(int set) {
            for (int own : sets) {
                if (own == set) {
                    return true;
                }
            }
            return false;
        }
    }

    private static long seed = 20261119;

    private final int n;
    private final int all;
    private final List<Held> once = new ArrayList<>();
    private final List<List<Held>> least = new ArrayList<>();
    private final List<List<Held>> greatest = new ArrayList<>();

    private BalanceTest(int n) {
        this.n = n;
        all = (1 << n) - 1;
        Ratio[] due = new Ratio[n];
        for (int side = 0; side < n; side++) {
            due[side] = Ratio.of(1);
        }
        choose(1, new ArrayList<>(), due, false, once);
        for (int side = 0; side < n; side++) {
            least.add(oneSide(side, 1));
            greatest.add(oneSide(side, -1));
        }
        Due.is("few sets that hold " + n + " sides once", once.size(), WELL_KNOWN[n]);
    }

    private List<Held> oneSide(int side, int times) {
        Ratio[] due = new Ratio[n];
        for (int k = 0; k < n; k++) {
            due[k] = Ratio.of(k == side ? times : 0);
        }
        List<Held> found = new ArrayList<>();
        choose(1, new ArrayList<>(), due, true, found);
        return found;
    }

    /** All choices of sets that hold the sides as is due, each in just one way. */
    private void choose(int from, List<Integer> chosen, Ratio[] due, boolean freeAll, List<Held> found) {
        Ratio[] weights = weights(chosen, due);
        if (weights != null && fits(chosen, weights, freeAll)) {
            found.add(new Held(chosen.stream().mapToInt(set -> set).toArray(), weights));
        }
        for (int set = from; set <= all && chosen.size() < n; set++) {
            List<Integer> more = new ArrayList<>(chosen);
            more.add(set);
            choose(set + 1, more, due, freeAll, found);
        }
    }

    private boolean fits(List<Integer> chosen, Ratio[] weights, boolean freeAll) {
        for (int k = 0; k < weights.length; k++) {
            boolean free = freeAll && chosen.get(k) == all;
            if (weights[k].isZero() || !free && weights[k].compareTo(Ratio.ZERO) < 0) {
                return false;
            }
        }
        return true;
    }

    /** The only weights by which the sets hold each side as often as is due, or null. */
    private Ratio[] weights(List<Integer> sets, Ratio[] due) {
        int many = sets.size();
        Ratio[][] rows = new Ratio[n][many + 1];
        for (int side = 0; side < n; side++) {
            for (int k = 0; k < many; k++) {
                rows[side][k] = Ratio.of(sets.get(k) >> side & 1);
            }
            rows[side][many] = due[side];
        }
        for (int k = 0; k < many; k++) {
            if (!lead(rows, k)) {
                return null;
            }
        }
        Ratio[] weights = new Ratio[many];
        for (int side = 0; side < n; side++) {
            if (side < many) {
                weights[side] = rows[side][many];
            } else if (!rows[side][many].isZero()) {
                return null;
            }
        }
        return weights;
    }

    /** Makes row k the only one that has unknown k, once; false if no row from k on has it. */
    private static boolean lead(Ratio[][] rows, int k) {
        int first = k;
        while (first < rows.length && rows[first][k].isZero()) {
            first++;
        }
        if (first == rows.length) {
            return false;
        }
        Ratio[] row = rows[first];
        rows[first] = rows[k];
        rows[k] = row;
        Ratio own = row[k];
        for (int j = 0; j < row.length; j++) {
            row[j] = row[j].by(own);
        }
        for (Ratio[] other : rows) {
            Ratio factor = other[k];
            for (int j = 0; j < row.length && other != row; j++) {
                other[j] = other[j].minus(factor.times(row[j]));
            }
        }
        return true;
    }

    private static Ratio greatestOf(List<Held> ways, int[] worths) {
        Ratio greatest = null;
        for (Held way : ways) {
            Ratio worth = way.worth(worths);
            greatest = greatest == null ? worth : Ratio.max(greatest, worth);
        }
        return greatest;
    }

    private Ratio strain(int[] worths) {
        Ratio greatest = null;
        for (Held way : once) {
            if (!way.has(all)) {
                Ratio complaint = way.worth(worths).minus(Ratio.of(worths[all])).by(way.together());
                greatest = greatest == null ? complaint : Ratio.max(greatest, complaint);
            }
        }
        return greatest;
    }

    private void check(String game, WonTogether x, int[] worths) {
        Ratio leastPay = greatestOf(once, worths);
        Due.told(game + " least(0)", x, x.least(0), leastPay.above, leastPay.below);
        boolean core = leastPay.compareTo(Ratio.of(worths[all])) == 0;
        Due.is(game + " core()", x.core(), core ? 1 : 0);
        for (int side = 0; side < n; side++) {
            if (core) {
                Ratio low = greatestOf(least.get(side), worths);
                Ratio high = Ratio.ZERO.minus(greatestOf(greatest.get(side), worths));
                Due.told(game + " least end of " + side, x, x.end(side, 0), low.above, low.below);
                Due.told(game + " greatest end of " + side, x, x.end(side, 1), high.above, high.below);
            } else {
                Due.is(game + " no end of " + side, x.end(side, 0), 0);
            }
        }
        if (n > 1) {
            Ratio strain = strain(worths);
            Due.told(game + " least(1)", x, x.least(1), strain.above, strain.below);
        }
        Ratio[] calm = new Ratio[n];
        for (int side = 0; side < n; side++) {
            Due.is(game + " calm(" + side + ")", x.calm(side), 1);
            calm[side] = new Ratio(x.part(0), x.part(1));
        }
        Due.is(game + " the calm share is whole", complaint(worths, calm, all).above, 0);
        for (int height = 1; height < all; height++) {
            Due.holds(game + " held together from the complaint of " + height, holdTogether(worths, calm, height));
        }
    }

    private Ratio complaint(int[] worths, Ratio[] share, int set) {
        Ratio left = Ratio.of(worths[set]);
        for (int side = 0; side < n; side++) {
            left = (set >> side & 1) == 1 ? left.minus(share[side]) : left;
        }
        return left;
    }

    /** Whether each set that complains at least as much as one stands in some way of such sets. */
    private boolean holdTogether(int[] worths, Ratio[] share, int height) {
        boolean[] high = new boolean[all + 1];
        for (int set = 1; set < all; set++) {
            high[set] = complaint(worths, share, set).compareTo(complaint(worths, share, height)) >= 0;
        }
        boolean[] seen = new boolean[all + 1];
        for (Held way : once) {
            boolean inside = true;
            for (int set : way.sets()) {
                inside = inside && high[set];
            }
            for (int set : way.sets()) {
                seen[set] = seen[set] || inside;
            }
        }
        return java.util.Arrays.equals(high, seen);
    }

    private static int next(int bound) {
        seed = seed * 6364136223846793005L + 1442695040888963407L;
        return (int) ((seed >>> 33) % bound);
    }

    /** Worths by turns: any; the sides' own and something more for many; only none or all of it. */
    private int[] worths(int kind) {
        int scale = new int[] {1, 2, 5, 30, 240}[next(5)];
        int[] own = {next(scale + 1), next(scale + 1), next(scale + 1), next(scale + 1)};
        int[] worths = new int[all + 1];
        for (int set = 1; set <= all; set++) {
            int together = 0;
            for (int side = 0; side < n; side++) {
                together += (set >> side & 1) == 1 ? own[side] : 0;
            }
            int more = Integer.bitCount(set) - 1;
            worths[set] = kind == 0 ? next(4 * scale + 1) - 2 * scale
                    : kind == 1 ? together + more * next(2) * next(scale / 5 + 1)
                    : next(3) == 0 || set == all ? scale : 0;
        }
        return worths;
    }

    public static void main(String[] args) {
        BalanceTest[] bySides = {null, new BalanceTest(1), new BalanceTest(2), new BalanceTest(3), new BalanceTest(4)};
        for (int k = 0; k < GAMES; k++) {
            BalanceTest sides = bySides[k % 8 == 0 ? 1 : k % 8 == 1 ? 2 : k % 8 < 4 ? 3 : 4];
            int[] worths = sides.worths(k % 3);
            int[] told = java.util.Arrays.copyOfRange(worths, 1, worths.length);
            WonTogether x = Samples.game(sides.n, told);
            sides.check("worths " + java.util.Arrays.toString(told), x, worths);
        }
        Due.end("BalanceTest");
    }
}
