/** Promises 10 to 18: shares. */
public final class SharesTest {
    private static final int LOW = Integer.MIN_VALUE;
    private static final int HIGH = Integer.MAX_VALUE;

    private SharesTest() {
    }

    private static WonTogether majority() {
        return WorthsTest.game(3, 0, 0, 1, 0, 1, 1, 1);
    }

    private static WonTogether oneAgainstThree() {
        return WorthsTest.game(4, 0, 0, 1, 0, 1, 0, 0, 0, 1, 0, 0, 0, 0, 1, 1);
    }

    /** What each set surely has of an estate when the others take all their claims. */
    private static WonTogether estate(int amount) {
        int[] claims = {100, 200, 300};
        WonTogether x = new WonTogether();
        for (int set = 1; set < 8; set++) {
            int left = amount;
            for (int side = 0; side < 3; side++) {
                left -= (set >> side & 1) == 1 ? 0 : claims[side];
            }
            x.worth(set, Math.max(0, left));
        }
        return x;
    }

    private static void promise10Least() {
        WonTogether x = majority();
        Due.told("least pay of a majority", x, x.least(0), 3, 2);
        Due.told("strain of a majority", x, x.least(1), 1, 3);
        WonTogether y = oneAgainstThree();
        Due.told("least pay, one against three", y, y.least(0), 5, 3);
        Due.told("strain, one against three", y, y.least(1), 2, 5);
        WonTogether z = WorthsTest.game(2, -3, -4, -10);
        Due.told("least pay below 0", z, z.least(0), -7, 1);
        Due.told("strain of two", z, z.least(1), 3, 2);
        z.worth(3, -6);
        Due.told("all together bind", z, z.least(0), -6, 1);
        Due.told("strain below 0", z, z.least(1), -1, 2);
        WonTogether one = WorthsTest.game(1, -7);
        Due.told("least pay of one", one, one.least(0), -7, 1);
        Due.refused("strain of one", one, one.digest(), one.least(1), 0);
        for (int what : new int[] {2, -1, LOW, HIGH}) {
            Due.refused("least(" + what + ")", x, x.digest(), x.least(what), -2);
        }
        WonTogether far = WorthsTest.game(4, 1000, 1000, 1000, 1000, 1000, 1000, 1000, 1000, 1000, 1000,
                1000, 1000, 1000, 1000, -1000);
        Due.told("far apart", far, far.least(0), 4000, 1);
        Due.told("far apart", far, far.least(1), 1750, 1);
    }

    private static void promise11Core() {
        Due.is("nothing to share", new WonTogether().core(), 1);
        Due.is("one side", WorthsTest.game(1, -3).core(), 1);
        Due.is("majority", majority().core(), 0);
        WonTogether x = WorthsTest.game(2, 3, 4, 7);
        Due.is("just enough", x.core(), 1);
        x.worth(3, 6);
        Due.is("one too few", x.core(), 0);
        WonTogether three = WorthsTest.game(3, 0, 0, 1, 0, 1, 2, 2);
        Due.is("halves just enough", three.core(), 1);
        three.worth(3, 2);
        Due.is("halves too few", three.core(), 0);
        WonTogether y = oneAgainstThree();
        y.worth(15, 2);
        Due.is("thirds enough", y.core(), 1);
        Due.is("core changes nothing", y.part(1), 1);
    }

    private static void promise12End() {
        WonTogether x = WorthsTest.game(2, 3, 4, 10);
        Due.told("end(0, 0)", x, x.end(0, 0), 3, 1);
        Due.told("end(0, 1)", x, x.end(0, 1), 6, 1);
        Due.told("end(1, 0)", x, x.end(1, 0), 4, 1);
        Due.told("end(1, 1)", x, x.end(1, 1), 7, 1);
        int[][] wrong = {{2, 0}, {-1, 1}, {0, 2}, {0, -1}, {LOW, 0}, {0, HIGH}};
        for (int[] w : wrong) {
            Due.refused("end " + w[0] + " " + w[1], x, x.digest(), x.end(w[0], w[1]), -2);
        }
        x.worth(3, 6);
        Due.refused("no core", x, x.digest(), x.end(0, 0), 0);
        Due.refused("no core, no side", x, x.digest(), x.end(2, 0), -2);
        Due.refused("no core, no end", x, x.digest(), x.end(0, 2), -2);
        WonTogether halves = WorthsTest.game(4, 0, 0, 1, 0, 1, 1, 0, 0, 0, 0, 0, 0, 0, 0, 3);
        Due.told("an end of halves", halves, halves.end(3, 1), 3, 2);
        Due.told("an end of halves", halves, halves.end(3, 0), 0, 1);
        Due.told("the first at most", halves, halves.end(0, 1), 2, 1);
        WonTogether point = WorthsTest.game(3, 0, 0, 1, 0, 1, 2, 2);
        Due.told("one share alone", point, point.end(0, 0), 0, 1);
        Due.told("one share alone", point, point.end(0, 1), 0, 1);
        Due.told("one share alone", point, point.end(2, 1), 1, 1);
        WonTogether one = WorthsTest.game(1, -9);
        Due.told("one side", one, one.end(0, 0), -9, 1);
        Due.told("one side", one, one.end(0, 1), -9, 1);
        WonTogether loss = WorthsTest.game(2, -9, -9, -10);
        Due.told("ends below 0", loss, loss.end(0, 0), -9, 1);
        Due.told("ends below 0", loss, loss.end(0, 1), -1, 1);
    }

    private static void calmIs(String name, WonTogether x, long... aboves) {
        for (int side = 0; side < aboves.length; side++) {
            Due.told(name + " of " + side, x, x.calm(side), aboves[side], 1);
        }
    }

    private static void promise13Calm() {
        WonTogether x = majority();
        Due.told("calm of a majority", x, x.calm(1), 1, 3);
        calmIs("no side need have its own worth", WorthsTest.game(2, 10, 0, 4), 7, -3);
        calmIs("one side", WorthsTest.game(1, -7), -7);
        calmIs("estate 300", estate(300), 50, 100, 150);
        WonTogether y = estate(200);
        calmIs("estate 200", y, 50, 75, 75);
        y.worth(7, 500);
        y.worth(6, 400);
        y.worth(5, 300);
        y.worth(3, 200);
        y.worth(4, 200);
        y.worth(2, 100);
        Due.told("after other worths", y, y.calm(0), 200, 3);
        Due.told("after other worths", y, y.calm(1), 500, 3);
        Due.told("after other worths", y, y.calm(2), 800, 3);
        y.sides(3);
        calmIs("after sides", y, 0, 0, 0);
        WonTogether four = WorthsTest.game(4, 5, 0, 9, 1, 20, 3, 4, 0, 7, -3, 12, 30, 8, 14, 41);
        Due.told("three bounds", four, four.calm(0), 15, 2);
        Due.told("three bounds", four, four.calm(1), 5, 2);
        Due.told("three bounds", four, four.calm(2), 83, 4);
        Due.told("three bounds", four, four.calm(3), 41, 4);
        for (int side : new int[] {4, -1, LOW, HIGH}) {
            Due.refused("calm(" + side + ")", four, four.digest(), four.calm(side), -2);
        }
    }

    private static void promise14Give() {
        WonTogether x = new WonTogether();
        Due.is("give(0, 0, 10000)", x.give(0, 0, 10000), 0);
        Due.is("give(0, 0, -10000)", x.give(0, 0, -10000), 10000);
        Due.is("give(0, 0, 1)", x.give(0, 0, 1), -10000);
        Due.is("give(1, 2, 4)", x.give(1, 2, 4), 0);
        Due.is("give(1, 2, 4)", x.give(1, 2, 4), 4);
        Due.is("the other share stays", x.give(0, 2, 0), 0);
        int[][] wrong = {{2, 0, 1}, {-1, 0, 1}, {0, 3, 1}, {0, -1, 1}, {0, 0, 10001}, {0, 0, -10001},
            {LOW, 0, 0}, {0, HIGH, 0}, {1, 1, LOW}};
        for (int[] w : wrong) {
            Due.refused("give " + w[0] + " " + w[1] + " " + w[2], x, x.digest(),
                    x.give(w[0], w[1], w[2]), -100000);
        }
    }

    private static WonTogether given(int... numbers) {
        WonTogether x = WorthsTest.game(3, 0, 0, 10, 0, 10, 10, 12);
        for (int side = 0; side < 3; side++) {
            x.give(0, side, numbers[side]);
            x.give(1, side, numbers[3 + side]);
        }
        return x;
    }

    private static void promise15Complaint() {
        WonTogether x = given(1, 2, 3, 0, 0, -5);
        Due.is("complaint(0, 1)", x.complaint(0, 1), -1);
        Due.is("complaint(0, 3)", x.complaint(0, 3), 7);
        Due.is("complaint(0, 7)", x.complaint(0, 7), 6);
        Due.is("complaint(1, 6)", x.complaint(1, 6), 15);
        int[][] wrong = {{2, 1}, {-1, 1}, {0, 0}, {0, 8}, {0, -1}, {HIGH, 1}, {0, LOW}};
        for (int[] w : wrong) {
            Due.refused("complaint " + w[0] + " " + w[1], x, x.digest(),
                    x.complaint(w[0], w[1]), -1000000);
        }
        WonTogether far = WorthsTest.game(4, 0, 0, 0, 0, 0, 0, 0, 0, 0, 0, 0, 0, 0, 0, -1000);
        for (int side = 0; side < 4; side++) {
            far.give(1, side, 10000);
        }
        Due.is("the least complaint", far.complaint(1, 15), -41000);
    }

    private static void promise16Surplus() {
        WonTogether x = given(1, 2, 3, 0, 0, -5);
        Due.is("surplus 0 over 1", x.surplus(0, 0, 1), 6);
        Due.is("surplus 0 over 2", x.surplus(0, 0, 2), 7);
        Due.is("surplus 2 over 0", x.surplus(0, 2, 0), 5);
        Due.is("surplus 2 over 1", x.surplus(1, 2, 1), 15);
        int[][] wrong = {{0, 1, 1}, {2, 0, 1}, {-1, 0, 1}, {0, 3, 1}, {0, 0, 3}, {0, -1, 0}, {0, 0, -1},
            {LOW, 0, 1}, {0, 0, HIGH}};
        for (int[] w : wrong) {
            Due.refused("surplus " + w[0] + " " + w[1] + " " + w[2], x, x.digest(),
                    x.surplus(w[0], w[1], w[2]), -1000000);
        }
        Due.is("one side has none other", WorthsTest.game(1, 4).surplus(0, 0, 0), -1000000);
        WonTogether far = WorthsTest.game(2, -1000, 0, 0);
        far.give(0, 0, 10000);
        Due.is("the least surplus", far.surplus(0, 0, 1), -11000);
    }

    private static void promise17Even() {
        WonTogether x = given(4, 4, 4, 5, 4, 3);
        Due.is("alike and whole", x.even(0), 1);
        Due.is("whole, not alike", x.even(1), 0);
        x.worth(7, 11);
        Due.is("alike, not whole", x.even(0), 0);
        WonTogether two = WorthsTest.game(2, 0, 0, 4);
        two.give(0, 0, 1);
        two.give(0, 1, 3);
        Due.is("two, not alike", two.even(0), 0);
        two.give(0, 0, 2);
        two.give(0, 1, 2);
        Due.is("two alike", two.even(0), 1);
        WonTogether one = WorthsTest.game(1, 3);
        Due.is("one, not whole", one.even(1), 0);
        one.give(1, 0, 3);
        Due.is("one, whole", one.even(1), 1);
        WonTogether last = WorthsTest.game(4, 0, 0, 0, 0, 0, 0, 0, 0, 0, 0, 0, 0, 0, 0, 4);
        last.give(0, 0, 1);
        last.give(0, 1, 1);
        last.give(0, 2, 2);
        Due.is("the last two differ", last.even(0), 0);
        last.give(0, 2, 1);
        last.give(0, 3, 1);
        Due.is("four alike", last.even(0), 1);
        for (int share : new int[] {2, -1, LOW, HIGH}) {
            Due.refused("even(" + share + ")", x, x.digest(), x.even(share), -2);
        }
    }

    private static void promise18Better() {
        WonTogether x = given(5, 5, 0, 4, 4, 4);
        Due.is("by the first two, just their worth", x.better(0), 3);
        Due.is("the last alone has more than its worth", x.better(1), -1);
        x.worth(4, 4);
        Due.is("by the last", x.better(1), 4);
        x.give(0, 0, 6);
        Due.is("together more than worth", x.better(0), -1);
        x.give(0, 0, 4);
        Due.is("as much is not more", x.better(0), -1);
        Due.is("like shares", new WonTogether().better(0), -1);
        WonTogether all = given(5, 5, 2, 4, 4, 1);
        all.worth(3, 9);
        all.worth(5, 6);
        all.worth(6, 6);
        Due.is("by all alone", all.better(0), 7);
        WonTogether first = given(-1, -2, 0, -2, -3, -1);
        Due.is("the first such set", first.better(0), 1);
        for (int a : new int[] {2, -1, LOW, HIGH}) {
            Due.refused("better(" + a + ")", x, x.digest(), x.better(a), -2);
        }
    }

    public static void main(String[] args) {
        promise10Least();
        promise11Core();
        promise12End();
        promise13Calm();
        promise14Give();
        promise15Complaint();
        promise16Surplus();
        promise17Even();
        promise18Better();
        Due.end("SharesTest");
    }
}
