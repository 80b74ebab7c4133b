import java.util.ArrayList;
import java.util.List;

/** A market of pairs by the words of the document, by the longest ways. */
final class PlainMarket {
    int buyers = 0;
    int sellers = 0;
    int[][] gains = new int[4][4];
    int[] prices = new int[4];

    void restart(int b, int s) {
        buyers = b;
        sellers = s;
        gains = new int[4][4];
        prices = new int[4];
    }

    /** The first greatest row of all givings of things (by their sellers), its sum behind it. */
    private int[] best(List<Integer> things) {
        List<int[]> rows = new ArrayList<>();
        give(new int[buyers], 0, 0, things, rows);
        int[] best = null;
        for (int[] row : rows) {
            int[] told = java.util.Arrays.copyOf(row, buyers + 1);
            for (int b = 0; b < buyers; b++) {
                told[buyers] += row[b] < 0 ? 0 : gains[b][row[b]];
            }
            boolean more = best == null || told[buyers] > best[buyers];
            if (more || told[buyers] == best[buyers] && java.util.Arrays.compare(told, best) < 0) {
                best = told;
            }
        }
        return best;
    }

    private void give(int[] row, int b, int gone, List<Integer> things, List<int[]> rows) {
        if (b == buyers) {
            rows.add(row.clone());
            return;
        }
        row[b] = -1;
        give(row, b + 1, gone, things, rows);
        for (int t = 0; t < things.size(); t++) {
            if ((gone >> t & 1) == 0) {
                row[b] = things.get(t);
                give(row, b + 1, gone | 1 << t, things, rows);
            }
        }
    }

    private List<Integer> allThings() {
        List<Integer> things = new ArrayList<>();
        for (int s = 0; s < sellers; s++) {
            things.add(s);
        }
        return things;
    }

    int most(int what) {
        int[] best = best(allThings());
        return what < 0 ? best[buyers] : best[what];
    }

    int price(int seller, int what) {
        List<Integer> things = allThings();
        if (what == 0) {
            things.add(seller);
            return best(things)[buyers] - most(-1);
        }
        things.remove(Integer.valueOf(seller));
        return most(-1) - best(things)[buyers];
    }

    boolean clear() {
        int sum = 0;
        for (int s = 0; s < sellers; s++) {
            sum += prices[s];
        }
        for (int b = 0; b < buyers; b++) {
            int gain = 0;
            for (int s = 0; s < sellers; s++) {
                gain = Math.max(gain, gains[b][s] - prices[s]);
            }
            sum += gain;
        }
        return sum == most(-1);
    }
}
