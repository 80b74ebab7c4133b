import java.util.ArrayList;
import java.util.Arrays;
import java.util.List;

/** Claims by the words of the document, by the longest ways. */
final class PlainClaims {
    final List<Integer> claims = new ArrayList<>();
    int estate = 0;

    int total() {
        return claims.stream().mapToInt(c -> c).sum();
    }

    Ratio award(int k, int rule) {
        Ratio[] whole = new Ratio[claims.size()];
        Ratio[] half = new Ratio[claims.size()];
        for (int j = 0; j < whole.length; j++) {
            whole[j] = Ratio.of(claims.get(j));
            half[j] = new Ratio(claims.get(j), 2);
        }
        Ratio e = Ratio.of(estate);
        Ratio all = Ratio.of(total());
        if (total() == 0) {
            return Ratio.ZERO;
        }
        switch (rule) {
            case 0:
                return whole[k].times(e).by(all);
            case 1:
                return Ratio.min(whole[k], evenNumber(whole, e));
            case 2:
                return Ratio.max(Ratio.ZERO, whole[k].minus(evenLoss(whole, e)));
            case 3:
                if (2 * estate <= total()) {
                    return Ratio.min(half[k], evenNumber(half, e));
                }
                return whole[k].minus(Ratio.min(half[k], evenNumber(half, all.minus(e))));
            default:
                return coming(k);
        }
    }

    /** The number by which the lesser of it and each claim come to an amount together. */
    private static Ratio evenNumber(Ratio[] claims, Ratio amount) {
        Ratio[] rising = claims.clone();
        Arrays.sort(rising);
        Ratio left = amount;
        Ratio number = Ratio.ZERO;
        for (int k = 0; k < rising.length; k++) {
            Ratio step = left.by(Ratio.of(rising.length - k));
            if (step.compareTo(rising[k]) <= 0) {
                return step;
            }
            number = rising[k];
            left = left.minus(rising[k]);
        }
        return number;
    }

    /** The number by which all claims less it, 0 at least, come to an amount together. */
    private static Ratio evenLoss(Ratio[] claims, Ratio amount) {
        Ratio[] rising = claims.clone();
        Arrays.sort(rising);
        // With just the greatest so many left above 0, the loss is told by them.
        Ratio sum = Ratio.ZERO;
        for (int many = 1; many <= rising.length; many++) {
            sum = sum.plus(rising[rising.length - many]);
            Ratio loss = sum.minus(amount).by(Ratio.of(many));
            boolean reachesNext = many < rising.length
                    && rising[rising.length - many - 1].compareTo(loss) > 0;
            if (!reachesNext && loss.compareTo(Ratio.ZERO) >= 0) {
                return loss;
            }
        }
        throw new IllegalStateException();
    }

    private Ratio coming(int k) {
        List<int[]> orders = Orders.of(claims.size());
        long sum = 0;
        for (int[] order : orders) {
            int left = estate;
            for (int next : order) {
                int taken = Math.min(left, claims.get(next));
                left -= taken;
                sum += next == k ? taken : 0;
            }
        }
        return new Ratio(sum, orders.size());
    }
}
