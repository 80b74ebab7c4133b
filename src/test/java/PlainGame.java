import java.util.ArrayList;
import java.util.Arrays;
import java.util.List;

/** Worths and shares by the words of the document, by the longest ways. */
final class PlainGame {
    int n = 3;
    int[] v = new int[16];
    int[][] told = new int[2][4];
    private Ratio[] calm;
    private Ratio strain;
    private List<Ratio[]> free;

    void restart(int many) {
        n = many;
        v = new int[16];
        told = new int[2][4];
        forget();
    }

    void forget() {
        calm = null;
        strain = null;
        free = null;
    }

    int all() {
        return (1 << n) - 1;
    }

    static boolean in(int set, int side) {
        return (set & 1 << side) != 0;
    }

    int dividend(int set) {
        int sum = 0;
        for (int part = set; part > 0; part = part - 1 & set) {
            sum += (Integer.bitCount(set & ~part) % 2 == 0 ? 1 : -1) * v[part];
        }
        return sum;
    }

    /** The order that a number tells, or null. */
    int[] order(int number) {
        for (int[] order : Orders.of(n)) {
            int told = 0;
            for (int side : order) {
                told = told * 4 + side;
            }
            if (told == number) {
                return order;
            }
        }
        return null;
    }

    int margin(int[] order, int side) {
        int ahead = 0;
        for (int next : order) {
            if (next == side) {
                return v[ahead | 1 << next] - v[ahead];
            }
            ahead |= 1 << next;
        }
        throw new IllegalStateException();
    }

    Ratio shapley(int side) {
        List<int[]> orders = Orders.of(n);
        int sum = 0;
        for (int[] order : orders) {
            sum += margin(order, side);
        }
        return new Ratio(sum, orders.size());
    }

    Ratio banzhaf(int side) {
        int sum = 0;
        int sets = 0;
        for (int set = 0; set <= all(); set++) {
            if (!in(set, side)) {
                sum += v[set + (1 << side)] - v[set];
                sets++;
            }
        }
        return new Ratio(sum, sets);
    }

    int fails(int what) {
        for (int lesser = 1; lesser <= all(); lesser++) {
            for (int greater = lesser + 1; greater <= all(); greater++) {
                int both = v[lesser | greater];
                int shared = v[lesser & greater];
                boolean apart = (lesser & greater) == 0;
                if (what == 0 ? apart && v[lesser] + v[greater] > both
                        : v[lesser] + v[greater] > both + shared) {
                    return 16 * lesser + greater;
                }
            }
        }
        return -1;
    }

    /** All partings as rows of the least side of each side's set. */
    private void partings(int[] row, int filled, List<int[]> found) {
        if (filled == n) {
            found.add(row.clone());
            return;
        }
        for (int first = 0; first <= filled; first++) {
            if (first == filled || row[first] == first) {
                row[filled] = first;
                partings(row, filled + 1, found);
            }
        }
    }

    /** Worths, 0 less how many sets, 0 less the row: the greatest of all partings. */
    int[] parting() {
        List<int[]> rows = new ArrayList<>();
        partings(new int[n], 0, rows);
        int[] best = null;
        for (int[] row : rows) {
            int[] rank = new int[n + 2];
            for (int first = 0; first < n; first++) {
                int set = 0;
                for (int side = 0; side < n; side++) {
                    set |= row[side] == first ? 1 << side : 0;
                }
                rank[0] += v[set];
                rank[1] -= set == 0 ? 0 : 1;
                rank[first + 2] = -row[first];
            }
            best = best == null || Arrays.compare(rank, best) > 0 ? rank : best;
        }
        return best;
    }

    private Ratio[] row(int set, int unknowns, Ratio bound) {
        Ratio[] row = new Ratio[unknowns + 1];
        for (int side = 0; side < unknowns; side++) {
            row[side] = Ratio.of(side < n && in(set, side) ? 1 : 0);
        }
        row[unknowns] = bound;
        return row;
    }

    private static Ratio have(Ratio[] share, int set) {
        Ratio sum = Ratio.ZERO;
        for (int side = 0; side < 4; side++) {
            if (in(set, side)) {
                sum = sum.plus(share[side]);
            }
        }
        return sum;
    }

    private List<Ratio[]> freeCorners() {
        if (free == null) {
            Corners corners = new Corners(n);
            for (int set = 1; set <= all(); set++) {
                corners.mustBeAtLeast(row(set, n, Ratio.of(v[set])));
            }
            free = corners.all();
        }
        return free;
    }

    Ratio leastPay() {
        Ratio least = null;
        for (Ratio[] share : freeCorners()) {
            Ratio together = have(share, all());
            least = least == null ? together : Ratio.min(least, together);
        }
        return least;
    }

    boolean hasCore() {
        return n == 1 || strain().compareTo(Ratio.ZERO) <= 0;
    }

    Ratio end(int side, int what) {
        Corners corners = new Corners(n);
        corners.mustEqual(row(all(), n, Ratio.of(v[all()])));
        for (int set = 1; set < all(); set++) {
            corners.mustBeAtLeast(row(set, n, Ratio.of(v[set])));
        }
        Ratio end = null;
        for (Ratio[] share : corners.all()) {
            end = end == null ? share[side]
                    : what == 0 ? Ratio.min(end, share[side]) : Ratio.max(end, share[side]);
        }
        return end;
    }

    Ratio strain() {
        findCalm();
        return strain;
    }

    Ratio calm(int side) {
        findCalm();
        return calm[side];
    }

    /**
     * The sets' greatest complaint (the last unknown) as small as can be; the sets that then
     * have it in every corner keep it; the others go on.
     */
    private void findCalm() {
        if (calm != null) {
            return;
        }
        List<Ratio[]> fixed = new ArrayList<>();
        fixed.add(row(all(), n + 1, Ratio.of(v[all()])));
        List<Integer> open = new ArrayList<>();
        for (int set = 1; set < all(); set++) {
            open.add(set);
        }
        if (open.isEmpty()) {
            calm = new Ratio[] {Ratio.of(v[1])};
        }
        while (!open.isEmpty()) {
            List<Ratio[]> best = bestCorners(fixed, open);
            Ratio bound = best.get(0)[n];
            strain = strain == null ? bound : strain;
            calm = best.get(0);
            List<Integer> still = new ArrayList<>();
            for (int set : open) {
                if (isTightInAll(best, set, bound)) {
                    fixed.add(row(set, n + 1, Ratio.of(v[set]).minus(bound)));
                } else {
                    still.add(set);
                }
            }
            open = changeable(fixed, still);
        }
    }

    private boolean isTightInAll(List<Ratio[]> shares, int set, Ratio bound) {
        for (Ratio[] share : shares) {
            if (Ratio.of(v[set]).minus(have(share, set)).compareTo(bound) != 0) {
                return false;
            }
        }
        return true;
    }

    private List<Ratio[]> bestCorners(List<Ratio[]> fixed, List<Integer> open) {
        Corners corners = new Corners(n + 1);
        for (Ratio[] row : fixed) {
            corners.mustEqual(row);
        }
        for (int set : open) {
            Ratio[] row = row(set, n + 1, Ratio.of(v[set]));
            row[n] = Ratio.of(1);
            corners.mustBeAtLeast(row);
        }
        Ratio least = null;
        List<Ratio[]> best = new ArrayList<>();
        for (Ratio[] corner : corners.all()) {
            if (least == null || corner[n].compareTo(least) < 0) {
                least = corner[n];
                best.clear();
            }
            if (corner[n].compareTo(least) == 0) {
                best.add(corner);
            }
        }
        return best;
    }

    /** Those of the sets whose share the fixed rows leave open. */
    private List<Integer> changeable(List<Ratio[]> fixed, List<Integer> sets) {
        List<Integer> found = new ArrayList<>();
        for (int set : sets) {
            List<Ratio[]> rows = new ArrayList<>(fixed);
            rows.add(row(set, n + 1, Ratio.ZERO));
            if (rank(rows) > rank(fixed)) {
                found.add(set);
            }
        }
        return found;
    }

    private int rank(List<Ratio[]> rows) {
        List<Ratio[]> left = new ArrayList<>();
        for (Ratio[] row : rows) {
            left.add(row.clone());
        }
        int rank = 0;
        for (int k = 0; k < n; k++) {
            Ratio[] lead = null;
            for (Ratio[] row : left) {
                lead = lead == null && !row[k].isZero() ? row : lead;
            }
            if (lead == null) {
                continue;
            }
            left.remove(lead);
            rank++;
            for (Ratio[] row : left) {
                Ratio factor = row[k].by(lead[k]);
                for (int j = 0; j < n; j++) {
                    row[j] = row[j].minus(factor.times(lead[j]));
                }
            }
        }
        return rank;
    }

    int complaint(int share, int set) {
        int left = v[set];
        for (int side = 0; side < n; side++) {
            left -= in(set, side) ? told[share][side] : 0;
        }
        return left;
    }

    int surplus(int share, int i, int k) {
        int greatest = Integer.MIN_VALUE;
        for (int set = 1; set <= all(); set++) {
            if (in(set, i) && !in(set, k)) {
                greatest = Math.max(greatest, complaint(share, set));
            }
        }
        return greatest;
    }

    boolean even(int share) {
        boolean so = complaint(share, all()) == 0;
        for (int i = 0; i < n; i++) {
            for (int k = 0; k < n; k++) {
                so = so && (i == k || surplus(share, i, k) == surplus(share, k, i));
            }
        }
        return so;
    }

    int better(int a) {
        for (int set = 1; set <= all(); set++) {
            boolean so = true;
            int together = 0;
            for (int side = 0; side < n; side++) {
                if (in(set, side)) {
                    so = so && told[a][side] > told[1 - a][side];
                    together += told[a][side];
                }
            }
            if (so && together <= v[set]) {
                return set;
            }
        }
        return -1;
    }
}
