import java.util.ArrayList;
import java.util.List;

/** Votes by the words of the document, by the longest ways. */
final class PlainVotes {
    final List<Integer> weights = new ArrayList<>();
    int quota = 1;
    private int[] same;
    private boolean sameKnown;

    void forget() {
        sameKnown = false;
    }

    int sets() {
        return 1 << weights.size();
    }

    static int together(int[] numbers, int set) {
        int sum = 0;
        for (int k = 0; k < numbers.length; k++) {
            sum += (set >> k & 1) == 1 ? numbers[k] : 0;
        }
        return sum;
    }

    boolean wins(int set) {
        return together(weights.stream().mapToInt(w -> w).toArray(), set) >= quota;
    }

    List<Integer> leastSets() {
        List<Integer> found = new ArrayList<>();
        boolean[] win = new boolean[sets()];
        for (int set = 0; set < sets(); set++) {
            win[set] = wins(set);
            boolean least = win[set];
            for (int part = 0; part < set; part++) {
                least = least && !((part & set) == part && win[part]);
            }
            if (least) {
                found.add(set);
            }
        }
        return found;
    }

    int turns(int voter) {
        int turns = 0;
        for (int set = 0; set < sets(); set++) {
            if ((set >> voter & 1) == 0 && !wins(set) && wins(set + (1 << voter))) {
                turns++;
            }
        }
        return turns;
    }

    int pivots(int voter) {
        int pivots = 0;
        for (int[] order : Orders.of(weights.size())) {
            int weight = 0;
            for (int next : order) {
                boolean before = weight >= quota;
                weight += weights.get(next);
                if (next == voter && !before && weight >= quota) {
                    pivots++;
                }
            }
        }
        return pivots;
    }

    boolean blocks(int voter) {
        boolean so = wins(sets() - 1);
        for (int set = 0; set < sets(); set++) {
            so = so && ((set >> voter & 1) == 1 || !wins(set));
        }
        return so;
    }

    boolean idle(int voter) {
        boolean so = true;
        for (int set : leastSets()) {
            so = so && (set >> voter & 1) == 0;
        }
        return so;
    }

    Ratio deegan(int voter) {
        List<Integer> least = leastSets();
        Ratio sum = Ratio.ZERO;
        for (int set : least) {
            if ((set >> voter & 1) == 1) {
                sum = sum.plus(new Ratio(1, Integer.bitCount(set)));
            }
        }
        return sum.by(Ratio.of(least.size()));
    }

    /** The row with its quota behind it, or null. */
    int[] same() {
        if (!sameKnown) {
            boolean[] win = new boolean[sets()];
            for (int set = 0; set < sets(); set++) {
                win[set] = wins(set);
            }
            same = null;
            for (int sum = 0; sum <= 12 && same == null; sum++) {
                for (int q = 1; q <= sum + 1 && same == null; q++) {
                    same = firstRow(new int[weights.size()], 0, sum, q, win);
                }
            }
            sameKnown = true;
        }
        return same;
    }

    private int[] firstRow(int[] row, int filled, int left, int q, boolean[] win) {
        if (filled == row.length) {
            return left == 0 && winsAlike(row, q, win) ? withQuota(row, q) : null;
        }
        for (int k = 0; k <= left; k++) {
            row[filled] = k;
            int[] found = firstRow(row, filled + 1, left - k, q, win);
            if (found != null) {
                return found;
            }
        }
        return null;
    }

    private static boolean winsAlike(int[] row, int q, boolean[] win) {
        for (int set = 0; set < win.length; set++) {
            if (together(row, set) >= q != win[set]) {
                return false;
            }
        }
        return true;
    }

    private static int[] withQuota(int[] row, int q) {
        int[] found = java.util.Arrays.copyOf(row, row.length + 1);
        found[row.length] = q;
        return found;
    }
}
