/**
 * Long mixed runs: the program and the plain reading of the document get the same calls,
 * right and wrong ones, and must answer the same, the digest after each call too.
 */
public final class RunsTest {
    private static final String[] NAMES = {"sides", "worth", "dividend", "margin", "value", "fails",
        "parting", "part", "least", "core", "end", "calm", "give", "complaint", "surplus", "even",
        "better", "voter", "weight", "quota", "wins", "minimal", "power", "deegan", "same", "claim",
        "estate", "award", "place", "user", "alone", "paid", "pay", "held", "market", "gain", "most",
        "price", "tell", "clear", "count", "digest"};
    private static final int[] EDGES = {-1, -2, 0, 1, 2, 3, 4, 5, 7, 8, 9, 10, 15, 16, 31, 32, 50, 51,
        63, 64, 255, 256, 400, 401, 1000, 1001, -1000, -1001, 6000, 6001, 10000, 10001, -10000, -10001,
        Integer.MAX_VALUE, Integer.MIN_VALUE, 1 << 30, -3, -4};

    private static long seed = 20261118;

    private RunsTest() {
    }

    private static int next(int bound) {
        seed = seed * 6364136223846793005L + 1442695040888963407L;
        return (int) ((seed >>> 33) % bound);
    }

    private static long ask(WonTogether x, int method, int a, int b, int c) {
        switch (method) {
            case 0: return x.sides(a);
            case 1: return x.worth(a, b);
            case 2: return x.dividend(a);
            case 3: return x.margin(a, b);
            case 4: return x.value(a, b);
            case 5: return x.fails(a);
            case 6: return x.parting(a);
            case 7: return x.part(a);
            case 8: return x.least(a);
            case 9: return x.core();
            case 10: return x.end(a, b);
            case 11: return x.calm(a);
            case 12: return x.give(a, b, c);
            case 13: return x.complaint(a, b);
            case 14: return x.surplus(a, b, c);
            case 15: return x.even(a);
            case 16: return x.better(a);
            case 17: return x.voter(a);
            case 18: return x.weight(a, b);
            case 19: return x.quota(a);
            case 20: return x.wins(a);
            case 21: return x.minimal(a);
            case 22: return x.power(a, b);
            case 23: return x.deegan(a);
            case 24: return x.same(a);
            case 25: return x.claim(a);
            case 26: return x.estate(a);
            case 27: return x.award(a, b);
            case 28: return x.place(a, b);
            case 29: return x.user(a);
            case 30: return x.alone(a);
            case 31: return x.paid(a);
            case 32: return x.pay(a, b);
            case 33: return x.held();
            case 34: return x.market(a, b);
            case 35: return x.gain(a, b, c);
            case 36: return x.most(a);
            case 37: return x.price(a, b);
            case 38: return x.tell(a, b);
            case 39: return x.clear();
            case 40: return x.count(a);
            default: return x.digest();
        }
    }

    private static void both(int run, WonTogether x, Plain plain, int method, int a, int b, int c) {
        String call = "run " + run + ": " + NAMES[method] + "(" + a + ", " + b + ", " + c + ")";
        Due.is(call, ask(x, method, a, b, c), plain.call(method, a, b, c));
        Due.is(call + " then digest", x.digest(), plain.call(41, 0, 0, 0));
    }

    /** A number that fits the method's argument more often than not. */
    private static int likely(Plain plain, int method, int argument, int scale) {
        if (next(12) == 0) {
            return EDGES[next(EDGES.length)];
        }
        int sides = plain.count(0);
        int set = 1 + next((1 << sides) - 1);
        switch (method * 10 + argument) {
            case 0: return 1 + next(4);
            case 10: case 20: return set;
            case 11: return next(2 * scale + 1) - scale;
            case 30: return order(sides);
            case 31: case 40: case 100: case 110: case 121: case 141: case 142: return next(sides);
            case 41: case 50: case 70: case 80: case 101: case 120: case 130: case 140: case 150:
            case 160: case 371: return next(2);
            case 60: return next(sides + 1) - 1;
            case 122: return next(2 * scale + 1) - scale;
            case 131: return set;
            case 170: case 181: return next(3) == 0 ? next(51) : next(6);
            case 190: return 1 + next(next(3) == 0 ? 400 : 20);
            case 200: return next(1 << plain.count(1));
            case 210: return next(12) - 1;
            case 180: case 220: case 230: return next(1 + plain.count(1));
            case 221: return next(4);
            case 240: return next(2 + plain.count(1)) - 1;
            case 250: return next(3) == 0 ? next(1001) : next(30);
            case 260: return next(2) == 0 ? next(6001) : next(120);
            case 270: return next(1 + plain.count(2));
            case 271: return next(5);
            case 280: case 290: return next(plain.count(3));
            case 281: return next(60);
            case 300: return next(1 << plain.count(4));
            case 310: case 320: return next(1 + plain.count(4));
            case 321: return next(50);
            case 340: case 341: return next(5);
            case 350: return next(1 + plain.count(5));
            case 360: return next(2 + plain.count(5)) - 1;
            case 351: case 370: case 380: return next(1 + plain.count(6));
            case 352: case 381: return next(12);
            case 400: return next(8);
            default: return next(20) - 4;
        }
    }

    private static int order(int sides) {
        java.util.List<int[]> orders = Orders.of(sides);
        int number = 0;
        for (int side : orders.get(next(orders.size()))) {
            number = 4 * number + side;
        }
        return number;
    }

    /** Asks everything that worths tell. */
    private static void askGame(int run, WonTogether x, Plain plain) {
        both(run, x, plain, 9, 0, 0, 0);
        for (int what = -1; what < 2; what++) {
            both(run, x, plain, 5, what, 0, 0);
            both(run, x, plain, 8, what, 0, 0);
        }
        for (int side = -1; side <= plain.count(0); side++) {
            both(run, x, plain, 6, side, 0, 0);
            both(run, x, plain, 11, side, 0, 0);
            both(run, x, plain, 4, side, 0, 0);
            both(run, x, plain, 4, side, 1, 0);
            both(run, x, plain, 10, side, 0, 0);
            both(run, x, plain, 10, side, 1, 0);
        }
    }

    /** A game of some kind: few worths (like ones), near sums of sides', or any. */
    private static void layGame(int run, WonTogether x, Plain plain) {
        both(run, x, plain, 0, 1 + Math.max(next(4), next(4)), 0, 0);
        int kind = next(5);
        int scale = kind == 0 ? 1 : kind == 1 ? 3 : kind == 2 ? 20 : 1000;
        for (int set = 1; set < 1 << plain.count(0); set++) {
            int many = Integer.bitCount(set);
            int v = kind < 4 ? next(2 * scale + 1) - scale : next(20) + many * many * 25;
            if (kind == 2) {
                v += 15 * (many - 1);
            }
            both(run, x, plain, 1, set, Math.min(v, 1000), 0);
        }
    }

    public static void main(String[] args) {
        for (int run = 1; run <= 500; run++) {
            WonTogether x = new WonTogether();
            Plain plain = new Plain();
            for (int k = 0; k < 3; k++) {
                layGame(run, x, plain);
                askGame(run, x, plain);
            }
        }
        for (int run = 501; run <= 1000; run++) {
            WonTogether x = new WonTogether();
            Plain plain = new Plain();
            int scale = next(3) == 0 ? 1000 : 4 + next(30);
            for (int k = 0; k < 250; k++) {
                int method = next(NAMES.length);
                both(run, x, plain, method, likely(plain, method, 0, scale),
                        likely(plain, method, 1, scale), likely(plain, method, 2, scale));
            }
        }
        Due.end("RunsTest");
    }
}
