/** Promises 1 to 9: a new object, sides, worths and what is told of them. */
public final class WorthsTest {
    private static final int LOW = Integer.MIN_VALUE;
    private static final int HIGH = Integer.MAX_VALUE;

    private WorthsTest() {
    }

    /** Sides with these worths of all sets, from 1 on. */
    static WonTogether game(int sides, int... worths) {
        WonTogether x = new WonTogether();
        x.sides(sides);
        for (int set = 1; set <= worths.length; set++) {
            x.worth(set, worths[set - 1]);
        }
        return x;
    }

    private static WonTogether mixedGame() {
        return game(3, 5, 7, 20, -3, 1, 2, 30);
    }

    private static void promise1NewObject() {
        WonTogether x = new WonTogether();
        int[] counts = {3, 0, 0, 1, 0, 0, 0};
        for (int what = 0; what < counts.length; what++) {
            Due.is("new count(" + what + ")", x.count(what), counts[what]);
        }
        Due.is("new part(0)", x.part(0), 0);
        Due.is("new part(1)", x.part(1), 1);
        Due.is("new digest", x.digest(), Due.digestOf(3, 0, 0, 1, 0, 0, 0, 0, 0, 0, 0, 0, 0, 0,
                0, 0, 0, 0, 0, 0, 1, 0, 0, 1));
        Due.is("new quota", x.quota(5), 1);
        Due.is("new estate", x.estate(5), 0);
        for (int set = 1; set < 8; set++) {
            Due.is("new worth", x.worth(set, 9), 0);
        }
        Due.is("new given", x.give(0, 0, 1), 0);
        Due.is("another new object", new WonTogether().digest(), Due.digestOf(3, 0, 0, 1, 0, 0, 0,
                0, 0, 0, 0, 0, 0, 0, 0, 0, 0, 0, 0, 0, 1, 0, 0, 1));
        Due.is("NONE", WonTogether.NONE, -1);
        Due.is("BAD", WonTogether.BAD, -2);
        Due.is("NO", WonTogether.NO, -3);
        Due.is("FULL", WonTogether.FULL, -4);
    }

    private static void promise2Sides() {
        WonTogether x = mixedGame();
        x.give(1, 2, 8);
        x.give(0, 0, 3);
        x.value(2, 1);
        for (int n : new int[] {0, 5, -1, -2, LOW, HIGH}) {
            Due.refused("sides(" + n + ")", x, x.digest(), x.sides(n), -2);
        }
        Due.is("sides(3) again", x.sides(3), 1);
        Due.is("sides(3) sets worths 0", x.worth(7, 0), 0);
        Due.is("sides(3) sets shares 0", x.give(1, 2, 0), 0);
        Due.is("sides(3) sets shares 0", x.give(0, 0, 0), 0);
        Due.is("sides leaves the fraction", x.part(0), -1);
        Due.is("sides leaves the fraction", x.part(1), 2);
        for (int n = 1; n <= 4; n++) {
            Due.is("sides(" + n + ")", x.sides(n), 1);
            Due.is("count after sides(" + n + ")", x.count(0), n);
            Due.is("worth of all of " + n, x.worth((1 << n) - 1, 4), 0);
            Due.is("worth above all of " + n, x.worth(1 << n, 4), -100000);
            Due.is("share of the last of " + n, x.give(0, n - 1, 3), 0);
            Due.is("share above the last of " + n, x.give(0, n, 3), -100000);
        }
        x.sides(2);
        x.sides(4);
        Due.is("worths of more sides are 0", x.worth(15, 0), 0);
        Due.is("shares of more sides are 0", x.give(0, 3, 0), 0);
    }

    private static void promise3Worth() {
        WonTogether x = new WonTogether();
        Due.is("worth(7, 1000)", x.worth(7, 1000), 0);
        Due.is("worth(7, -1000)", x.worth(7, -1000), 1000);
        Due.is("worth(7, 3)", x.worth(7, 3), -1000);
        Due.is("worth(1, -2)", x.worth(1, -2), 0);
        Due.is("worth(1, 0)", x.worth(1, 0), -2);
        for (int set : new int[] {0, 8, -1, LOW, HIGH, 15}) {
            Due.refused("worth of " + set, x, x.digest(), x.worth(set, 1), -100000);
        }
        for (int v : new int[] {1001, -1001, LOW, HIGH}) {
            Due.refused("worth to " + v, x, x.digest(), x.worth(1, v), -100000);
        }
    }

    private static void promise4Dividend() {
        WonTogether x = mixedGame();
        int[] due = {5, 7, 8, -3, -1, -2, 16};
        for (int set = 1; set <= 7; set++) {
            Due.is("dividend(" + set + ")", x.dividend(set), due[set - 1]);
        }
        for (int set : new int[] {0, 8, -1, LOW, HIGH}) {
            Due.refused("dividend(" + set + ")", x, x.digest(), x.dividend(set), -100000);
        }
        WonTogether y = game(4, 1, 1, 1, 1, 1, 1, 1, 1, 1, 1, 1, 1, 1, 1, 1);
        Due.is("dividend of four alike", y.dividend(15), -1);
        WonTogether z = game(4, -1000, -1000, 1000, -1000, 1000, 1000, -1000, -1000, 1000, 1000,
                -1000, 1000, -1000, -1000, 1000);
        Due.is("the greatest dividend", z.dividend(15), 15000);
    }

    private static void promise5Margin() {
        WonTogether x = mixedGame();
        Due.is("margin 2 0 1 of 2", x.margin(33, 2), -3);
        Due.is("margin 2 0 1 of 0", x.margin(33, 0), 4);
        Due.is("margin 2 0 1 of 1", x.margin(33, 1), 29);
        Due.is("margin 0 1 2 of 2", x.margin(6, 2), 10);
        // Sides twice, a side that is none, digits too many, sides that are none.
        for (int order : new int[] {0, 1, 7, 22, 48, 64, 70, -1, LOW, HIGH}) {
            Due.refused("order " + order, x, x.digest(), x.margin(order, 0), -100000);
        }
        for (int side : new int[] {3, -1, LOW, HIGH}) {
            Due.refused("margin of " + side, x, x.digest(), x.margin(33, side), -100000);
        }
        WonTogether one = game(1, -7);
        Due.is("the only order of one", one.margin(0, 0), -7);
        Due.is("no order of one", one.margin(1, 0), -100000);
        Due.is("one and a digit too many", one.margin(4, 0), -100000);
        Due.is("one and a digit below 0", one.margin(-4, 0), -100000);
        WonTogether two = game(2, 3, 4, 10);
        Due.is("margin 1 0 of 0", two.margin(4, 0), 6);
        Due.is("margin 0 1 of 1", two.margin(1, 1), 7);
        Due.is("no order of two", two.margin(6, 1), -100000);
        Due.is("two and a digit too many", two.margin(17, 1), -100000);
        WonTogether four = game(4, 0, 0, 0, 0, 0, 0, 11, 0, 0, 0, 0, 0, 0, 2, 50);
        Due.is("margin 0 1 2 3 of 3", four.margin(27, 3), 39);
        Due.is("margin 3 2 1 0 of 0", four.margin(228, 0), 48);
        Due.is("the highest number is no order", four.margin(255, 0), -100000);
        Due.is("an order and 256", four.margin(256 + 27, 0), -100000);
    }

    private static void promise6Value() {
        WonTogether x = mixedGame();
        Due.told("value(0, 0)", x, x.value(0, 0), 83, 6);
        Due.told("value(1, 0)", x, x.value(1, 0), 46, 3);
        Due.told("value(2, 0)", x, x.value(2, 0), 5, 6);
        Due.told("value(0, 1)", x, x.value(0, 1), 25, 2);
        Due.told("value(1, 1)", x, x.value(1, 1), 14, 1);
        Due.told("value(2, 1)", x, x.value(2, 1), -1, 2);
        int[][] wrong = {{3, 0}, {-1, 0}, {0, 2}, {0, -1}, {LOW, 0}, {0, HIGH}};
        for (int[] w : wrong) {
            Due.refused("value " + w[0] + " " + w[1], x, x.digest(), x.value(w[0], w[1]), -2);
        }
        Due.told("value of nothing", x, new WonTogether().value(0, 0), -1, 2);
        x.sides(3);
        Due.told("0 in lowest terms", x, x.value(0, 0), 0, 1);
        WonTogether one = game(1, 1000);
        Due.told("value of one", one, one.value(0, 0), 1000, 1);
        Due.told("value of one", one, one.value(0, 1), 1000, 1);
        WonTogether four = game(4, 0, 0, 0, 0, 0, 0, 0, 0, 0, 0, 0, 0, 0, 0, 1);
        Due.told("all of four needed", four, four.value(3, 0), 1, 4);
        Due.told("all of four needed", four, four.value(3, 1), 1, 8);
    }

    private static void promise7Fails() {
        WonTogether x = new WonTogether();
        Due.is("nothing fails", x.fails(0), -1);
        Due.is("nothing fails", x.fails(1), -1);
        WonTogether apart = game(3, 1, 1, 1, 0, 1, 1, 2);
        Due.is("1 and 2 apart", apart.fails(0), 18);
        Due.is("1 and 2 apart", apart.fails(1), 18);
        apart.worth(3, 2);
        Due.is("as much together is enough", apart.fails(0), -1);
        WonTogether more = game(3, 0, 0, 10, 0, 0, 10, 15);
        Due.is("joining pays", more.fails(0), -1);
        Due.is("3 and 6 have 1 in common", more.fails(1), 54);
        more.worth(2, 5);
        Due.is("just as much", more.fails(1), -1);
        WonTogether later = game(4, 0, 0, 1, 0, 0, 0, 1, 0, 0, 0, 1, 1, 1, 1, 1);
        Due.is("3 and 12", later.fails(0), 60);
        WonTogether fromOne = game(4, 1, 0, 1, 0, 1, 0, 1, 0, 1, 0, 1, 0, 0, 2, 2);
        Due.is("the lesser first, then the greater", fromOne.fails(0), 28);
        Due.is("one side never fails", game(1, -5).fails(0), -1);
        Due.is("one side never fails", game(1, -5).fails(1), -1);
        for (int what : new int[] {2, -1, LOW, HIGH}) {
            Due.refused("fails(" + what + ")", x, x.digest(), x.fails(what), -2);
        }
    }

    private static void partingIs(String name, WonTogether x, int worth, int... row) {
        Due.is(name + ": worth", x.parting(-1), worth);
        for (int side = 0; side < row.length; side++) {
            Due.is(name + ": side " + side, x.parting(side), row[side]);
        }
    }

    private static void promise8Parting() {
        partingIs("all like: fewest sets", new WonTogether(), 0, 0, 0, 0);
        partingIs("one is best alone", game(3, 1, 0, 0, 0, 0, 0, 0), 1, 0, 1, 1);
        partingIs("all alone", game(3, 1, 1, 1, 1, 1, 1, 1), 3, 0, 1, 2);
        partingIs("the first row", game(4, 0, 0, 1, 0, 1, 0, 0, 0, 0, 0, 0, 0, 0, 0, 0), 1, 0, 0, 2, 2);
        partingIs("the first row", game(4, 0, 0, 1, 0, 1, 0, 1, 0, 0, 0, 0, 0, 0, 0, 0), 1, 0, 0, 0, 3);
        partingIs("two and two across", game(4, 0, 0, 0, 0, 0, 3, 0, 0, 3, 0, 0, 0, 0, 0, 5), 6, 0, 1, 1, 0);
        partingIs("fewest sets, though not the first row", game(4, 0, 0, 1, 0, 0, 0, 0, 0, 1, 0, 0, -1,
                0, 0, 0), 1, 0, 1, 1, 0);
        partingIs("losses", game(2, -5, -5, -5), -5, 0, 0);
        partingIs("losses apart", game(2, -2, -2, -5), -4, 0, 1);
        partingIs("one", game(1, 6), 6, 0);
        WonTogether x = mixedGame();
        for (int what : new int[] {3, -2, LOW, HIGH}) {
            Due.refused("parting(" + what + ")", x, x.digest(), x.parting(what), -100000);
        }
    }

    private static void promise9Part() {
        WonTogether x = mixedGame();
        x.value(2, 1);
        Due.is("part(0)", x.part(0), -1);
        Due.is("part(1)", x.part(1), 2);
        for (int what : new int[] {2, -1, LOW, HIGH}) {
            Due.refused("part(" + what + ")", x, x.digest(), x.part(what), -1000000000000000000L);
        }
    }

    public static void main(String[] args) {
        promise1NewObject();
        promise2Sides();
        promise3Worth();
        promise4Dividend();
        promise5Margin();
        promise6Value();
        promise7Fails();
        promise8Parting();
        promise9Part();
        Due.end("WorthsTest");
    }
}
