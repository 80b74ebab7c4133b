import java.util.ArrayList;
import java.util.List;

/**
 * All corners of what some rows allow: rows that must be equal and rows that must be at
 * least, each with its bound behind its factors. Plain enough to be believed: every choice
 * of rows is solved, and what breaks no row is a corner.
 */
final class Corners {
    private final int unknowns;
    private final List<Ratio[]> equal = new ArrayList<>();
    private final List<Ratio[]> atLeast = new ArrayList<>();

    Corners(int unknowns) {
        this.unknowns = unknowns;
    }

    void mustEqual(Ratio[] row) {
        equal.add(row);
    }

    void mustBeAtLeast(Ratio[] row) {
        atLeast.add(row);
    }

    static Ratio valueOf(Ratio[] row, Ratio[] point) {
        Ratio sum = Ratio.ZERO;
        for (int k = 0; k < point.length; k++) {
            sum = sum.plus(row[k].times(point[k]));
        }
        return sum;
    }

    List<Ratio[]> all() {
        List<Ratio[]> found = new ArrayList<>();
        choose(0, reduced(equal), found);
        return found;
    }

    private void choose(int from, List<Ratio[]> chosen, List<Ratio[]> found) {
        if (chosen.size() == unknowns) {
            Ratio[] point = solved(chosen);
            if (isAllowed(point)) {
                found.add(point);
            }
            return;
        }
        for (int k = from; k < atLeast.size(); k++) {
            Ratio[] rest = lessened(atLeast.get(k), chosen);
            if (leader(rest) < unknowns) {
                List<Ratio[]> more = new ArrayList<>(chosen);
                more.add(rest);
                choose(k + 1, more, found);
            }
        }
    }

    private List<Ratio[]> reduced(List<Ratio[]> rows) {
        List<Ratio[]> found = new ArrayList<>();
        for (Ratio[] row : rows) {
            Ratio[] rest = lessened(row, found);
            if (leader(rest) < unknowns) {
                found.add(rest);
            }
        }
        return found;
    }

    private int leader(Ratio[] row) {
        int k = 0;
        while (k < unknowns && row[k].isZero()) {
            k++;
        }
        return k;
    }

    /** The row less as much of each chosen one as takes its leader away. */
    private Ratio[] lessened(Ratio[] row, List<Ratio[]> chosen) {
        Ratio[] rest = row.clone();
        for (Ratio[] other : chosen) {
            int lead = leader(other);
            Ratio factor = rest[lead].by(other[lead]);
            if (!factor.isZero()) {
                for (int k = 0; k <= unknowns; k++) {
                    rest[k] = rest[k].minus(factor.times(other[k]));
                }
            }
        }
        return rest;
    }

    private Ratio[] solved(List<Ratio[]> chosen) {
        Ratio[] point = new Ratio[unknowns];
        for (int k = 0; k < unknowns; k++) {
            point[k] = Ratio.ZERO;
        }
        // A row has nothing at the leaders of those ahead of it: so from the last one back.
        for (int r = chosen.size() - 1; r >= 0; r--) {
            Ratio[] row = chosen.get(r);
            int lead = leader(row);
            point[lead] = row[unknowns].minus(valueOf(row, point)).by(row[lead]);
        }
        return point;
    }

    private boolean isAllowed(Ratio[] point) {
        for (Ratio[] row : equal) {
            if (valueOf(row, point).compareTo(row[unknowns]) != 0) {
                return false;
            }
        }
        for (Ratio[] row : atLeast) {
            if (valueOf(row, point).compareTo(row[unknowns]) < 0) {
                return false;
            }
        }
        return true;
    }
}
