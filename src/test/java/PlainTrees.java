import java.util.ArrayList;
import java.util.HashSet;
import java.util.List;
import java.util.Set;

/** A tree of ways by the words of the document, by the longest ways. */
final class PlainTrees {
    final List<int[]> places = new ArrayList<>();
    final List<int[]> users = new ArrayList<>();

    PlainTrees() {
        places.add(new int[] {-1, 0});
    }

    private List<Integer> path(int user) {
        List<Integer> found = new ArrayList<>();
        for (int p = users.get(user)[0]; p != 0; p = places.get(p)[0]) {
            found.add(p);
        }
        return found;
    }

    int alone(int set) {
        Set<Integer> used = new HashSet<>();
        for (int u = 0; u < users.size(); u++) {
            if ((set >> u & 1) == 1) {
                used.addAll(path(u));
            }
        }
        return used.stream().mapToInt(p -> places.get(p)[1]).sum();
    }

    Ratio paid(int user) {
        Ratio sum = Ratio.ZERO;
        for (int p : path(user)) {
            int with = 0;
            for (int u = 0; u < users.size(); u++) {
                with += path(u).contains(p) ? 1 : 0;
            }
            sum = sum.plus(new Ratio(places.get(p)[1], with));
        }
        return sum;
    }

    int held() {
        for (int set = 0; set < 1 << users.size(); set++) {
            int pays = 0;
            for (int u = 0; u < users.size(); u++) {
                pays += (set >> u & 1) == 1 ? users.get(u)[1] : 0;
            }
            if (pays > alone(set)) {
                return set;
            }
        }
        return -1;
    }
}
