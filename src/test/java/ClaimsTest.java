/** Promises 27 to 29: claims on an estate. */
public final class ClaimsTest {
    private static final int LOW = Integer.MIN_VALUE;
    private static final int HIGH = Integer.MAX_VALUE;

    private ClaimsTest() {
    }

    private static WonTogether claims(int estate, int... claims) {
        WonTogether x = new WonTogether();
        for (int claim : claims) {
            x.claim(claim);
        }
        x.estate(estate);
        return x;
    }

    private static void promise27Claim() {
        WonTogether x = new WonTogether();
        for (int v : new int[] {1001, -1, LOW, HIGH}) {
            Due.refused("claim(" + v + ")", x, x.digest(), x.claim(v), -2);
        }
        for (int k = 0; k < 6; k++) {
            Due.is("claim " + k, x.claim(k % 2 == 0 ? 1000 : 0), k);
            Due.is("claims", x.count(2), k + 1);
        }
        Due.refused("a seventh", x, x.digest(), x.claim(1), -4);
        Due.refused("a seventh, wrong", x, x.digest(), x.claim(1001), -2);
    }

    private static void promise28Estate() {
        WonTogether x = new WonTogether();
        Due.is("estate(6000)", x.estate(6000), 0);
        Due.is("estate(0)", x.estate(0), 6000);
        Due.is("estate(12)", x.estate(12), 0);
        for (int e : new int[] {6001, -1, LOW, HIGH}) {
            Due.refused("estate(" + e + ")", x, x.digest(), x.estate(e), -2);
        }
    }

    /** Whole awards by a rule of claims 100, 200, 300. */
    private static void ruleIs(int rule, int estate, int... due) {
        WonTogether x = claims(estate, 100, 200, 300);
        for (int k = 0; k < due.length; k++) {
            Due.told("rule " + rule + " of " + estate + " to " + k, x, x.award(k, rule), due[k], 1);
        }
    }

    private static void promise29Award() {
        rulesOneByOne();
        fractionsOfAwards();
        noClaims();
        refusedAwards();
    }

    private static void rulesOneByOne() {
        ruleIs(0, 120, 20, 40, 60);
        ruleIs(0, 300, 50, 100, 150);
        ruleIs(1, 150, 50, 50, 50);
        ruleIs(1, 300, 100, 100, 100);
        ruleIs(1, 400, 100, 150, 150);
        ruleIs(1, 550, 100, 200, 250);
        ruleIs(2, 100, 0, 0, 100);
        ruleIs(2, 200, 0, 50, 150);
        ruleIs(2, 300, 0, 100, 200);
        ruleIs(2, 450, 50, 150, 250);
        ruleIs(3, 150, 50, 50, 50);
        ruleIs(3, 200, 50, 75, 75);
        ruleIs(3, 250, 50, 100, 100);
        ruleIs(3, 300, 50, 100, 150);
        ruleIs(3, 400, 50, 125, 225);
        ruleIs(3, 450, 50, 150, 250);
        ruleIs(3, 540, 80, 180, 280);
        ruleIs(4, 300, 50, 100, 150);
        for (int rule = 0; rule < 5; rule++) {
            ruleIs(rule, 0, 0, 0, 0);
            ruleIs(rule, 600, 100, 200, 300);
        }
    }

    private static void fractionsOfAwards() {
        WonTogether x = claims(200, 100, 200, 300);
        Due.told("each by its part", x, x.award(0, 0), 100, 3);
        Due.told("even giving", x, x.award(2, 1), 200, 3);
        Due.told("coming first", x, x.award(0, 4), 100, 3);
        Due.told("coming", x, x.award(1, 4), 250, 3);
        Due.told("coming", x, x.award(2, 4), 250, 3);
        x.estate(100);
        Due.told("halves", x, x.award(1, 3), 100, 3);
        x.estate(550);
        Due.told("even loss", x, x.award(0, 2), 250, 3);
        WonTogether odd = claims(10, 3, 8);
        Due.told("half of an odd claim", odd, odd.award(0, 3), 5, 2);
        Due.told("half of an odd claim", odd, odd.award(1, 3), 15, 2);
        WonTogether least = claims(1, 1);
        for (int rule = 0; rule < 5; rule++) {
            Due.told("the least claim, rule " + rule, least, least.award(0, rule), 1, 1);
        }
        WonTogether six = claims(2, 1, 1, 1, 1, 1, 1);
        for (int rule = 0; rule < 5; rule++) {
            Due.told("like claims, rule " + rule, six, six.award(5, rule), 1, 3);
        }
    }

    private static void noClaims() {
        WonTogether x = claims(0, 0, 0);
        for (int rule = 0; rule < 5; rule++) {
            Due.told("claims of 0, rule " + rule, x, x.award(1, rule), 0, 1);
        }
        x.estate(1);
        for (int rule = 0; rule < 5; rule++) {
            Due.refused("more than claims of 0", x, x.digest(), x.award(0, rule), -3);
        }
        Due.is("no claim", claims(0).award(0, 0), -2);
        Due.is("no claim, more than all", claims(5).award(0, 0), -2);
    }

    private static void refusedAwards() {
        WonTogether x = claims(600, 100, 200, 300);
        x.award(1, 4);
        int[][] wrong = {{3, 0}, {-1, 0}, {0, 5}, {0, -1}, {HIGH, 0}, {0, LOW}};
        for (int[] w : wrong) {
            Due.refused("award " + w[0] + " " + w[1], x, x.digest(), x.award(w[0], w[1]), -2);
        }
        x.estate(601);
        Due.refused("above all claims", x, x.digest(), x.award(0, 0), -3);
        for (int[] w : wrong) {
            Due.refused("wrong, and above all claims", x, x.digest(), x.award(w[0], w[1]), -2);
        }
        x.claim(1);
        Due.told("just all claims", x, x.award(3, 2), 1, 1);
    }

    public static void main(String[] args) {
        promise27Claim();
        promise28Estate();
        promise29Award();
        Due.end("ClaimsTest");
    }
}
