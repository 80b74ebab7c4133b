/** Promises 36 to 42: a market of pairs, and how many there are of all. */
public final class MarketTest {
    private static final int LOW = Integer.MIN_VALUE;
    private static final int HIGH = Integer.MAX_VALUE;

    private MarketTest() {
    }

    /** Gains by buyers. */
    private static WonTogether market(int[]... gains) {
        WonTogether x = new WonTogether();
        x.market(gains.length, gains[0].length);
        for (int b = 0; b < gains.length; b++) {
            for (int s = 0; s < gains[b].length; s++) {
                x.gain(b, s, gains[b][s]);
            }
        }
        return x;
    }

    private static WonTogether threeByTwo() {
        return market(new int[] {8, 7}, new int[] {5, 6}, new int[] {6, 1});
    }

    private static void promise36Market() {
        WonTogether x = threeByTwo();
        x.tell(1, 3);
        int[][] wrong = {{5, 0}, {0, 5}, {-1, 0}, {0, -1}, {LOW, 0}, {0, HIGH}};
        for (int[] w : wrong) {
            Due.refused("market " + w[0] + " " + w[1], x, x.digest(), x.market(w[0], w[1]), -2);
        }
        Due.is("market(3, 2) again", x.market(3, 2), 1);
        Due.is("gains are 0", x.gain(0, 0, 0), 0);
        Due.is("prices are 0", x.tell(1, 0), 0);
        for (int b = 0; b <= 4; b++) {
            for (int s = 0; s <= 4; s++) {
                Due.is("market", x.market(b, s), 1);
                Due.is("buyers", x.count(5), b);
                Due.is("sellers", x.count(6), s);
                Due.is("the last gain", x.gain(b - 1, s - 1, 9), b == 0 || s == 0 ? -2 : 0);
                Due.is("the last price", x.tell(s - 1, 9), s == 0 ? -2 : 0);
            }
        }
    }

    private static void promise37Gain() {
        WonTogether x = threeByTwo();
        Due.is("gain(2, 1, 1000)", x.gain(2, 1, 1000), 1);
        Due.is("gain(2, 1, 0)", x.gain(2, 1, 0), 1000);
        Due.is("gain(0, 1, 2)", x.gain(0, 1, 2), 7);
        int[][] wrong = {{3, 0, 1}, {0, 2, 1}, {-1, 0, 1}, {0, -1, 1}, {0, 0, 1001}, {0, 0, -1},
            {HIGH, 0, 0}, {0, LOW, 0}, {0, 0, HIGH}};
        for (int[] w : wrong) {
            Due.refused("gain " + w[0] + " " + w[1] + " " + w[2], x, x.digest(),
                    x.gain(w[0], w[1], w[2]), -2);
        }
        Due.is("no market", new WonTogether().gain(0, 0, 1), -2);
    }

    private static void mostIs(String name, WonTogether x, int sum, int... row) {
        Due.is(name + ": most", x.most(-1), sum);
        for (int b = 0; b < row.length; b++) {
            Due.is(name + ": buyer " + b, x.most(b), row[b]);
        }
    }

    private static void promise38Most() {
        mostIs("three by two", threeByTwo(), 14, 0, 1, -1);
        mostIs("none of like ones first", market(new int[] {5}, new int[] {5}), 5, -1, 0);
        mostIs("the first seller of like ones", market(new int[] {4, 4, 4}), 4, 0);
        mostIs("the first row", market(new int[] {3, 3}, new int[] {3, 3}), 6, 0, 1);
        mostIs("nothing to gain", market(new int[] {0, 0}, new int[] {0, 0}), 0, -1, -1);
        mostIs("none before a gain of 0", market(new int[] {0, 0}, new int[] {0, 2}), 2, -1, 1);
        mostIs("four by four", market(new int[] {9, 8, 7, 6}, new int[] {8, 6, 4, 2},
                new int[] {7, 4, 1, 0}, new int[] {6, 2, 0, 1}), 21, 2, 1, 0, 3);
        mostIs("no market", new WonTogether(), 0);
        WonTogether x = threeByTwo();
        for (int what : new int[] {3, -2, LOW, HIGH}) {
            Due.refused("most(" + what + ")", x, x.digest(), x.most(what), -10);
        }
        Due.is("no buyer", new WonTogether().most(0), -10);
        WonTogether far = new WonTogether();
        far.market(4, 4);
        for (int k = 0; k < 16; k++) {
            far.gain(k / 4, k % 4, 1000);
        }
        Due.is("nothing to pay fits", far.clear(), 1);
        for (int s = 3; s >= 0; s--) {
            Due.is("some prices do not", far.clear(), s == 3 ? 1 : 0);
            far.tell(s, 1000);
        }
        Due.is("all of four fit", far.clear(), 1);
        far.price(3, 0);
        Due.is("a row after a price", far.most(3), 3);
        mostIs("the greatest", far, 4000, 0, 1, 2, 3);
        far.market(2, 0);
        mostIs("no sellers", far, 0, -1, -1);
        far.market(0, 3);
        mostIs("no buyers", far, 0);
    }

    private static void promise39Price() {
        WonTogether x = threeByTwo();
        int[][] due = {{6, 7}, {5, 6}};
        for (int s = 0; s < 2; s++) {
            Due.is("cheap " + s, x.price(s, 0), due[s][0]);
            Due.is("dear " + s, x.price(s, 1), due[s][1]);
        }
        int[][] wrong = {{2, 0}, {-1, 0}, {0, 2}, {0, -1}, {HIGH, 0}, {0, LOW}};
        for (int[] w : wrong) {
            Due.refused("price " + w[0] + " " + w[1], x, x.digest(), x.price(w[0], w[1]), -2);
        }
        WonTogether pair = market(new int[] {9});
        Due.is("one pair, cheap", pair.price(0, 0), 0);
        Due.is("one pair, dear", pair.price(0, 1), 9);
        WonTogether four = market(new int[] {4, 0, 0, 0}, new int[] {3, 0, 0, 0},
                new int[] {0, 0, 0, 5}, new int[] {0, 0, 0, 2});
        Due.is("the first, cheap", four.price(0, 0), 3);
        Due.is("the first, dear", four.price(0, 1), 4);
        Due.is("the last, cheap", four.price(3, 0), 2);
        Due.is("the last, dear", four.price(3, 1), 5);
        Due.is("one that none wants", four.price(1, 1), 0);
        WonTogether none = new WonTogether();
        none.market(0, 2);
        Due.is("no buyers, cheap", none.price(1, 0), 0);
        Due.is("no buyers, dear", none.price(1, 1), 0);
    }

    private static void promise40Tell() {
        WonTogether x = threeByTwo();
        Due.is("tell(1, 1000)", x.tell(1, 1000), 0);
        Due.is("tell(1, 0)", x.tell(1, 0), 1000);
        Due.is("tell(0, 2)", x.tell(0, 2), 0);
        int[][] wrong = {{2, 0}, {-1, 0}, {0, 1001}, {0, -1}, {HIGH, 0}, {0, LOW}};
        for (int[] w : wrong) {
            Due.refused("tell " + w[0] + " " + w[1], x, x.digest(), x.tell(w[0], w[1]), -2);
        }
    }

    private static void clearIs(WonTogether x, int first, int second, int due) {
        x.tell(0, first);
        x.tell(1, second);
        Due.is("prices " + first + " " + second, x.clear(), due);
    }

    private static void promise41Clear() {
        WonTogether x = threeByTwo();
        clearIs(x, 0, 0, 0);
        clearIs(x, 6, 5, 1);
        clearIs(x, 7, 6, 1);
        clearIs(x, 6, 6, 1);
        clearIs(x, 7, 5, 0);
        clearIs(x, 5, 5, 0);
        clearIs(x, 8, 6, 0);
        Due.is("no market", new WonTogether().clear(), 1);
        WonTogether none = new WonTogether();
        none.market(0, 1);
        Due.is("no buyers", none.clear(), 1);
        none.tell(0, 1);
        Due.is("a price of what none has", none.clear(), 0);
    }

    private static void promise42Count() {
        WonTogether x = threeByTwo();
        x.sides(2);
        x.voter(1);
        x.claim(1);
        x.claim(1);
        x.claim(1);
        x.place(0, 1);
        x.user(1);
        x.user(0);
        int[] due = {2, 1, 3, 2, 2, 3, 2};
        for (int what = 0; what < due.length; what++) {
            Due.is("count(" + what + ")", x.count(what), due[what]);
        }
        for (int what : new int[] {7, -1, LOW, HIGH}) {
            Due.refused("count(" + what + ")", x, x.digest(), x.count(what), -2);
        }
    }

    public static void main(String[] args) {
        promise36Market();
        promise37Gain();
        promise38Most();
        promise39Price();
        promise40Tell();
        promise41Clear();
        promise42Count();
        Due.end("MarketTest");
    }
}
