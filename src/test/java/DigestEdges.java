import java.math.BigInteger;
import java.util.ArrayList;
import java.util.List;

/** Promise 43, sentence by sentence: digest. */
final class DigestEdges extends Edge {
    private static final String STEP = "h = 353; then h = 31 h + v for each v:";
    private static final String COUNTS = "count(0) to count(6);";
    private static final String WORTHS = "WORTHS by sets from 1 on; TOLD SHARES;";
    private static final String VOTES = "WEIGHTS, QUOTA;";
    private static final String CLAIMS = "CLAIMS, ESTATE;";
    private static final String PLACES = "of places what they hang on, cost (of the ROOT none);";
    private static final String USERS = "of USERS place, pay;";
    private static final String MARKET = "gains by BUYERS; prices; THE FRACTION.";

    private DigestEdges() {
    }

    /** By numbers without any end, of which the lowest 64 bits are kept. */
    private static long digestOf(List<Long> row) {
        BigInteger h = BigInteger.valueOf(353);
        for (long v : row) {
            h = h.multiply(BigInteger.valueOf(31)).add(BigInteger.valueOf(v));
        }
        return h.longValue();
    }

    private static List<Long> row(long... numbers) {
        List<Long> found = new ArrayList<>();
        for (long v : numbers) {
            found.add(v);
        }
        return found;
    }

    /** What Samples.some has, as the promise puts it in a row. */
    private static List<Long> rowOfSome() {
        return row(3, 4, 3, 5, 4, 3, 2, 5, 7, 20, -3, 1, 2, 30, 4, 5, 6, -9, -10, -11, 4, 3, 2, 1, 6,
                100, 200, 300, 250, 0, 10, 1, 5, 1, 7, 0, 20, 4, 3, 3, 4, 2, 5, 1, 6,
                8, 7, 5, 6, 6, 1, 6, 4, -1, 2);
    }

    private static void digestIs(String call, WonTogether x, List<Long> row) {
        is("digest() after " + call, x.digest(), digestOf(row));
    }

    /** The object with something of everything, one number of which is then another one. */
    private static void changed(String call, long answer, WonTogether x, int at, long was, long now) {
        List<Long> row = rowOfSome();
        is(call, answer, was);
        is("the row at " + at, row.get(at), was);
        row.set(at, now);
        digestIs(call, x, row);
    }

    static void run() {
        ofNew();
        ofSome();
        ofShares();
        ofVotesAndClaims();
        ofTreeAndMarket();
        ofFull();
    }

    private static void ofNew() {
        edge(43, STEP, "a new object", () ->
                digestIs("new", new WonTogether(), row(3, 0, 0, 1, 0, 0, 0, 0, 0, 0, 0, 0, 0, 0,
                        0, 0, 0, 0, 0, 0, 1, 0, 0, 1)));
        edge(43, COUNTS, "1 to 4 SIDES", () -> {
            for (int n : ONE_TO_FOUR) {
                WonTogether x = new WonTogether();
                x.sides(n);
                List<Long> due = row(n, 0, 0, 1, 0, 0, 0);
                for (int k = 0; k < (1 << n) - 1 + 2 * n; k++) {
                    due.add(0L);
                }
                due.addAll(row(1, 0, 0, 1));
                digestIs("sides(" + n + ")", x, due);
            }
        });
        edge(43, COUNTS, "one more VOTER, CLAIM, place, USER, BUYER, SELLER each", () -> {
            WonTogether x = new WonTogether();
            x.sides(1);
            digestIs("sides(1)", x, row(1, 0, 0, 1, 0, 0, 0, 0, 0, 0, 1, 0, 0, 1));
            x.voter(5);
            digestIs("voter(5)", x, row(1, 1, 0, 1, 0, 0, 0, 0, 0, 0, 5, 1, 0, 0, 1));
            x.claim(6);
            digestIs("claim(6)", x, row(1, 1, 1, 1, 0, 0, 0, 0, 0, 0, 5, 1, 6, 0, 0, 1));
            x.place(0, 7);
            digestIs("place(0, 7)", x, row(1, 1, 1, 2, 0, 0, 0, 0, 0, 0, 5, 1, 6, 0, 0, 7, 0, 1));
            x.user(1);
            digestIs("user(1)", x, row(1, 1, 1, 2, 1, 0, 0, 0, 0, 0, 5, 1, 6, 0, 0, 7, 1, 0, 0, 1));
            x.market(1, 0);
            digestIs("market(1, 0)", x, row(1, 1, 1, 2, 1, 1, 0, 0, 0, 0, 5, 1, 6, 0, 0, 7, 1, 0, 0, 1));
            x.market(0, 1);
            digestIs("market(0, 1)", x, row(1, 1, 1, 2, 1, 0, 1, 0, 0, 0, 5, 1, 6, 0, 0, 7, 1, 0, 0, 0, 1));
            x.market(1, 1);
            digestIs("market(1, 1)", x, row(1, 1, 1, 2, 1, 1, 1, 0, 0, 0, 5, 1, 6, 0, 0, 7, 1, 0, 0, 0, 0, 1));
        });
    }

    private static void ofSome() {
        edge(43, STEP, "something of everything", () -> digestIs("some", Samples.some(), rowOfSome()));
        edge(43, STEP, "asking changes nothing", () ->
                unchanged("digest()", Everything.Part.SIDES, Samples::some, x -> x.digest(), digestOf(rowOfSome())));
    }

    private static void ofShares() {
        edge(43, WORTHS, "each WORTH, from the set 1 on", () -> {
            int[] was = {5, 7, 20, -3, 1, 2, 30};
            for (int set = 1; set < 8; set++) {
                for (int v : new int[] {-1000, 1000}) {
                    WonTogether x = Samples.some();
                    changed("worth(" + set + ", " + v + ")", x.worth(set, v), x, 6 + set, was[set - 1], v);
                }
            }
        });
        edge(43, WORTHS, "each number of each TOLD SHARE", () -> {
            int[] was = {4, 5, 6, -9, -10, -11};
            for (int k = 0; k < 6; k++) {
                for (int v : new int[] {-10000, 10000}) {
                    WonTogether x = Samples.some();
                    changed("give(" + k / 3 + ", " + k % 3 + ", " + v + ")", x.give(k / 3, k % 3, v), x, 14 + k,
                            was[k], v);
                }
            }
        });
    }

    private static void ofVotesAndClaims() {
        edge(43, VOTES, "each WEIGHT, the QUOTA", () -> {
            for (int k = 0; k < 4; k++) {
                WonTogether x = Samples.some();
                changed("weight(" + k + ", 50)", x.weight(k, 50), x, 20 + k, 4 - k, 50);
            }
            WonTogether x = Samples.some();
            changed("quota(400)", x.quota(400), x, 24, 6, 400);
        });
        edge(43, CLAIMS, "the ESTATE, and a CLAIM more", () -> {
            WonTogether x = Samples.some();
            changed("estate(6000)", x.estate(6000), x, 28, 250, 6000);
            WonTogether more = Samples.some();
            more.claim(9);
            List<Long> due = rowOfSome();
            due.set(2, 4L);
            due.add(28, 9L);
            digestIs("claim(9)", more, due);
        });
    }

    private static void ofTreeAndMarket() {
        edge(43, PLACES, "the ROOT alone has none", () -> {
            WonTogether x = new WonTogether();
            x.user(0);
            digestIs("user(0)", x, row(3, 0, 0, 1, 1, 0, 0, 0, 0, 0, 0, 0, 0, 0, 0, 0, 0, 0, 0, 0, 1, 0, 0, 0, 0, 1));
        });
        edge(43, PLACES, "a place more, on each that is there", () -> {
            for (int on = 0; on < 5; on++) {
                WonTogether x = Samples.some();
                x.place(on, 1000);
                List<Long> due = rowOfSome();
                due.set(3, 6L);
                due.add(37, (long) on);
                due.add(38, 1000L);
                digestIs("place(" + on + ", 1000)", x, due);
            }
        });
        edge(43, USERS, "each pay, and a USER more", () -> {
            for (int k = 0; k < 4; k++) {
                WonTogether x = Samples.some();
                changed("pay(" + k + ", 10000)", x.pay(k, 10000), x, 38 + 2 * k, 3 + k, 10000);
            }
            WonTogether more = Samples.some();
            more.user(4);
            List<Long> due = rowOfSome();
            due.set(4, 5L);
            due.add(45, 4L);
            due.add(46, 0L);
            digestIs("user(4)", more, due);
        });
        edge(43, MARKET, "each gain by BUYERS, each price", () -> {
            int[] was = {8, 7, 5, 6, 6, 1};
            for (int k = 0; k < 6; k++) {
                WonTogether x = Samples.some();
                changed("gain(" + k / 2 + ", " + k % 2 + ", 1000)", x.gain(k / 2, k % 2, 1000), x, 45 + k, was[k], 1000);
            }
            for (int s = 0; s < 2; s++) {
                WonTogether x = Samples.some();
                changed("tell(" + s + ", 1000)", x.tell(s, 1000), x, 51 + s, 6 - 2 * s, 1000);
            }
        });
        edge(43, MARKET, "THE FRACTION: above, then below", () -> {
            WonTogether x = Samples.some();
            x.paid(1);
            List<Long> due = rowOfSome();
            due.set(53, 31L);
            due.set(54, 3L);
            digestIs("paid(1)", x, due);
        });
    }

    private static void ofFull() {
        edge(43, STEP, "the fullest of everything: h goes round as a long does", () -> {
            List<Long> due = row(4, 8, 6, 10, 8, 4, 4);
            for (long set = 1; set < 16; set++) {
                due.add(100 * Long.bitCount(set) - set);
            }
            for (long side = 0; side < 8; side++) {
                due.add(side < 4 ? 10000 - side : side - 4 - 10000);
            }
            for (long k = 0; k < 8; k++) {
                due.add(50 - k);
            }
            due.add(333L);
            for (long k = 0; k < 6; k++) {
                due.add(1000 - k);
            }
            due.add(5985L);
            for (long k = 1; k <= 9; k++) {
                due.add(k / 2);
                due.add(1000 - k);
            }
            for (long k = 0; k < 8; k++) {
                due.add(9 - k);
                due.add(10000 - k);
            }
            for (long k = 0; k < 16; k++) {
                due.add(1000 - 7 * k % 11);
            }
            due.addAll(row(1000, 999, 998, 997, -1, 8));
            digestIs("full", Samples.full(), due);
        });
    }
}
