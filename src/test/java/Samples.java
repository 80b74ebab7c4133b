/** Objects that tests begin with; each call makes the same one anew. */
final class Samples {
    static final int LOW = Integer.MIN_VALUE;
    static final int HIGH = Integer.MAX_VALUE;

    private Samples() {
    }

    /** Sides with these worths of all sets, from 1 on. */
    static WonTogether game(int sides, int... worths) {
        WonTogether x = new WonTogether();
        x.sides(sides);
        for (int set = 1; set <= worths.length; set++) {
            x.worth(set, worths[set - 1]);
        }
        return x;
    }

    /** So many sides; each set has as much as told for so many of them. */
    static WonTogether alike(int sides, int... worthByMany) {
        WonTogether x = new WonTogether();
        x.sides(sides);
        for (int set = 1; set < 1 << sides; set++) {
            x.worth(set, worthByMany[Integer.bitCount(set) - 1]);
        }
        return x;
    }

    static WonTogether voters(int quota, int... weights) {
        WonTogether x = new WonTogether();
        for (int weight : weights) {
            x.voter(weight);
        }
        x.quota(quota);
        return x;
    }

    static WonTogether claims(int estate, int... claims) {
        WonTogether x = new WonTogether();
        for (int claim : claims) {
            x.claim(claim);
        }
        x.estate(estate);
        return x;
    }

    /** Places that hang in one row, each by a way of this cost. */
    static WonTogether chain(int... costs) {
        WonTogether x = new WonTogether();
        for (int k = 0; k < costs.length; k++) {
            x.place(k, costs[k]);
        }
        return x;
    }

    /** Gains by buyers. */
    static WonTogether market(int[]... gains) {
        WonTogether x = new WonTogether();
        x.market(gains.length, gains[0].length);
        for (int b = 0; b < gains.length; b++) {
            for (int s = 0; s < gains[b].length; s++) {
                x.gain(b, s, gains[b][s]);
            }
        }
        return x;
    }

    /** Something of everything, with a core, and the fraction -1 by 2: by so many calls. */
    static final int CALLS_OF_SOME = 45;

    static WonTogether some() {
        WonTogether x = game(3, 5, 7, 20, -3, 1, 2, 30);
        for (int side = 0; side < 3; side++) {
            x.give(0, side, 4 + side);
            x.give(1, side, -9 - side);
        }
        for (int k = 0; k < 4; k++) {
            x.voter(4 - k);
        }
        x.quota(6);
        for (int k = 1; k < 4; k++) {
            x.claim(100 * k);
        }
        x.estate(250);
        x.place(0, 10);
        x.place(1, 5);
        x.place(1, 7);
        x.place(0, 20);
        for (int k = 0; k < 4; k++) {
            x.user(4 - k);
            x.pay(k, 3 + k);
        }
        x.market(3, 2);
        int[] gains = {8, 7, 5, 6, 6, 1};
        for (int k = 0; k < 6; k++) {
            x.gain(k / 2, k % 2, gains[k]);
        }
        x.tell(0, 6);
        x.tell(1, 4);
        x.value(2, 1);
        return x;
    }

    /** The fullest of everything, and the fraction -1 by 8. */
    static WonTogether full() {
        WonTogether x = new WonTogether();
        x.sides(4);
        for (int set = 1; set < 16; set++) {
            x.worth(set, 100 * Integer.bitCount(set) - set);
        }
        for (int side = 0; side < 4; side++) {
            x.give(0, side, 10000 - side);
            x.give(1, side, side - 10000);
        }
        for (int k = 0; k < 8; k++) {
            x.voter(50 - k);
        }
        x.quota(333);
        for (int k = 0; k < 6; k++) {
            x.claim(1000 - k);
        }
        x.estate(5985);
        for (int k = 1; k <= 9; k++) {
            x.place(k / 2, 1000 - k);
        }
        for (int k = 0; k < 8; k++) {
            x.user(9 - k);
            x.pay(k, 10000 - k);
        }
        x.market(4, 4);
        for (int k = 0; k < 16; k++) {
            x.gain(k / 4, k % 4, 1000 - 7 * k % 11);
        }
        for (int s = 0; s < 4; s++) {
            x.tell(s, 1000 - s);
        }
        x.worth(8, -645);
        x.value(3, 1);
        x.worth(8, 92);
        return x;
    }

    private static boolean has(int set, int member) {
        return (set >> member & 1) == 1;
    }

    /** Sides, each with a number of its own; a set has what its sides have together. */
    static WonTogether sums(int... numbers) {
        WonTogether x = new WonTogether();
        x.sides(numbers.length);
        for (int set = 1; set < 1 << numbers.length; set++) {
            int sum = 0;
            for (int side = 0; side < numbers.length; side++) {
                sum += has(set, side) ? numbers[side] : 0;
            }
            x.worth(set, sum);
        }
        return x;
    }
}
