import java.util.ArrayList;
import java.util.List;

/** All orders of a few. */
final class Orders {
    private Orders() {
    }

    static List<int[]> of(int many) {
        List<int[]> found = new ArrayList<>();
        extend(new int[many], 0, 0, found);
        return found;
    }

    private static void extend(int[] order, int filled, int seen, List<int[]> found) {
        if (filled == order.length) {
            found.add(order.clone());
            return;
        }
        for (int k = 0; k < order.length; k++) {
            if ((seen >> k & 1) == 0) {
                order[filled] = k;
                extend(order, filled + 1, seen | 1 << k, found);
            }
        }
    }
}
