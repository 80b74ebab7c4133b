import java.util.function.ToLongFunction;

/** Promises 1 to 9, sentence by sentence: a new object, sides, worths and what is told of them. */
final class WorthsEdges extends Edge {
    private static final String SIDES = "SIDES: n of them (1 .. 4; 3 at first)";
    private static final String WORTH = "each set of SIDES (bits, but none) has a WORTH (-1000 .. 1000; 0 at first).";
    private static final String DIVIDEND = "DIVIDEND of a set: the sum over its parts (itself too, but none) of their"
            + " WORTHS, by 1 or -1 as what is missing is even or odd many.";
    private static final String MARGIN = "MARGIN of a SIDE in an order: WORTH of those up to it less that of those"
            + " ahead of it (none: 0).";
    private static final String ORDER = "MARGIN of a SIDE in an order (digits to the base 4, the first highest, each"
            + " SIDE once).";
    private static final String SHAPLEY = "SHAPLEY of a SIDE: MARGINS in all orders together by how many;";
    private static final String BANZHAF = "BANZHAF: WORTH with it less without it over all sets of the others (none,"
            + " too) together by how many.";
    private static final String JOINING = "JOINING pays: no two sets without a SIDE in common are worth more apart;"
            + " else the first such two, the lesser as a number, then the greater.";
    private static final String MORE = "MORE pays MORE: WORTHS of any two sets are no more than that of all of both"
            + " and that of what both have (none: 0); else the first such two likewise.";
    private static final String PARTING = "PARTING: all SIDES in sets, each in one: with the greatest WORTHS together,"
            + " of like ones the fewest sets, then the first as a row that tells for each SIDE the least one of its set.";
    private static final String FRACTION = "THE FRACTION: what is told last so, in lowest terms, below above 0 (0 by 1"
            + " at first).";

    private WorthsEdges() {
    }

    static void run() {
        promise1();
        promise2();
        promise3();
        promise4();
        promise5();
        promise6();
        promise7();
        promise8();
        promise9();
    }

    /** A call on the object with something of everything, by which nothing may change. */
    private static void refused(String call, ToLongFunction<WonTogether> asked, long want) {
        unchanged(call, Everything.Part.SIDES, Samples::some, asked, want);
    }

    private static WonTogether one(int worth) {
        return Samples.game(1, worth);
    }

    private static void promise1() {
        edge(1, "As told.", "how many of all there are", () -> {
            WonTogether x = new WonTogether();
            int[] counts = {3, 0, 0, 1, 0, 0, 0};
            for (int what = 0; what < 7; what++) {
                is("count(" + what + ")", x.count(what), counts[what]);
            }
        });
        edge(1, SIDES, "3 at first", () -> is("count(0)", new WonTogether().count(0), 3));
        edge(1, WORTH, "0 at first", () -> {
            WonTogether x = new WonTogether();
            for (int set = 1; set < 8; set++) {
                is("worth of " + set, x.worth(set, 9), 0);
            }
            kept("worth(8, 0)", x, o -> o.worth(8, 0), BAD_WORTH);
        });
        edge(1, FRACTION, "0 by 1 at first", () -> {
            is("part(0)", new WonTogether().part(0), 0);
            is("part(1)", new WonTogether().part(1), 1);
        });
        edge(1, "TOLD SHARES 0, 1: whole numbers (-10000 .. 10000; 0 at first).", "0 at first", () -> {
            WonTogether x = new WonTogether();
            for (int k = 0; k < 6; k++) {
                is("share " + k / 3 + " of " + k % 3, x.give(k / 3, k % 3, 5), 0);
            }
        });
        edge(1, "and a QUOTA (1 .. 400; 1 at first)", "1 at first", () -> is("quota", new WonTogether().quota(9), 1));
        edge(1, "on an ESTATE E (0 at first;", "0 at first", () -> is("estate", new WonTogether().estate(9), 0));
        edge(1, "A TREE: place 0 the ROOT;", "the ROOT alone is there at first", () -> {
            WonTogether x = new WonTogether();
            kept("user(1)", x, o -> o.user(1), BAD);
            is("user(0)", x.user(0), 0);
            is("count(3)", x.count(3), 1);
        });
        edge(1, "A MARKET: BUYERS, SELLERS (0 .. 4 each; 0 at first)", "none at first", () -> {
            WonTogether x = new WonTogether();
            kept("gain(0, 0, 1)", x, o -> o.gain(0, 0, 1), BAD);
            kept("tell(0, 1)", x, o -> o.tell(0, 1), BAD);
            is("most(-1)", x.most(NONE), 0);
        });
        edge(1, "As told.", "no VOTERS, CLAIMS, USERS", () -> {
            WonTogether x = new WonTogether();
            kept("weight(0, 1)", x, o -> o.weight(0, 1), BAD);
            kept("award(0, 0)", x, o -> o.award(0, 0), BAD);
            kept("pay(0, 1)", x, o -> o.pay(0, 1), BAD);
        });
        edge(1, "As told.", "one object knows nothing of another", () -> {
            WonTogether x = new WonTogether();
            long first = x.digest();
            WonTogether full = Samples.full();
            is("the first", x.digest(), first);
            is("a third", new WonTogether().digest(), first);
            is("the full one is another", full.count(0), 4);
        });
    }

    private static void promise2() {
        String does = "n SIDES; all WORTHS, TOLD SHARES 0: 1.";
        for (int n : ONE_TO_FOUR) {
            edge(2, SIDES, n + " is within 1 .. 4", () -> {
                WonTogether x = Samples.some();
                is("sides(" + n + ")", x.sides(n), 1);
                is("count(0)", x.count(0), n);
                is("worth of all", x.worth((1 << n) - 1, 1), 0);
                kept("worth of one more", x, o -> o.worth(1 << n, 1), BAD_WORTH);
                is("share of the last", x.give(1, n - 1, 1), 0);
                kept("share of one more", x, o -> o.give(1, n, 1), BAD_WORTH);
            });
        }
        for (int n : new int[] {0, -1, -3}) {
            edge(2, "BAD.", n + " is too small", () -> refused("sides(" + n + ")", x -> x.sides(n), BAD));
        }
        for (int n : new int[] {5, 6, 8}) {
            edge(2, "BAD.", n + " is too large", () -> refused("sides(" + n + ")", x -> x.sides(n), BAD));
        }
        edge(2, does, "as many as before", () -> {
            WonTogether x = Samples.some();
            is("sides(3)", x.sides(3), 1);
            for (int set = 1; set < 8; set++) {
                is("worth of " + set, x.worth(set, 0), 0);
            }
            for (int k = 0; k < 6; k++) {
                is("share " + k / 3 + " of " + k % 3, x.give(k / 3, k % 3, 0), 0);
            }
        });
        edge(2, does, "from the most to the fewest and back", () -> {
            WonTogether x = Samples.full();
            x.sides(1);
            x.sides(4);
            for (int set = 1; set < 16; set++) {
                is("worth of " + set, x.worth(set, 0), 0);
            }
            for (int k = 0; k < 8; k++) {
                is("share " + k / 4 + " of " + k % 4, x.give(k / 4, k % 4, 0), 0);
            }
        });
        edge(2, does, "nothing else: THE FRACTION, votes, claims, tree, market stay", () -> {
            for (Everything.Part part : Everything.Part.values()) {
                WonTogether x = Samples.some();
                WonTogether twin = Samples.some();
                x.sides(3);
                is("part(0)", x.part(0), -1);
                is("part(1)", x.part(1), 2);
                clearBothSides(x, twin);
                sameSeen("sides(3)", Everything.of(x, part), Everything.of(twin, part));
            }
        });
        edge(2, does, "what was found of the WORTHS before is not told any more", () -> {
            WonTogether x = Samples.some();
            x.calm(0);
            x.least(1);
            x.sides(3);
            told("calm(0)", x, x.calm(0), 0, 1);
            told("least(1)", x, x.least(1), 0, 1);
            told("least(0)", x, x.least(0), 0, 1);
            is("parting(-1)", x.parting(NONE), 0);
        });
    }

    /** Worths and shares of 0, told one by one, are what sides leaves at once. */
    private static void clearBothSides(WonTogether x, WonTogether twin) {
        for (int set = 1; set < 8; set++) {
            x.worth(set, 0);
            twin.worth(set, 0);
        }
        for (int k = 0; k < 6; k++) {
            x.give(k / 3, k % 3, 0);
            twin.give(k / 3, k % 3, 0);
        }
    }

    private static void promise3() {
        for (int v : new int[] {-1000, -999, 999, 1000}) {
            edge(3, WORTH, v + " is within -1000 .. 1000", () -> {
                WonTogether x = Samples.some();
                is("worth(7, " + v + ")", x.worth(7, v), 30);
                is("what it was", x.worth(7, 0), v);
            });
        }
        for (int v : new int[] {-1001, -1002}) {
            edge(3, "BAD: -100000.", v + " is too small", () ->
                    refused("worth(1, " + v + ")", x -> x.worth(1, v), BAD_WORTH));
        }
        for (int v : new int[] {1001, 1002}) {
            edge(3, "BAD: -100000.", v + " is too large", () ->
                    refused("worth(1, " + v + ")", x -> x.worth(1, v), BAD_WORTH));
        }
        edge(3, "BAD: -100000.", "none is no set that has a WORTH", () ->
                refused("worth(0, 1)", x -> x.worth(0, 1), BAD_WORTH));
        edge(3, "BAD: -100000.", "-1 is no set", () -> refused("worth(-1, 1)", x -> x.worth(-1, 1), BAD_WORTH));
        edge(3, "BAD: -100000.", "a set with a SIDE too many", () -> {
            for (int set : new int[] {8, 9, 15, 16, 17}) {
                refused("worth(" + set + ", 1)", x -> x.worth(set, 1), BAD_WORTH);
            }
        });
        for (int n : ONE_TO_FOUR) {
            int all = (1 << n) - 1;
            edge(3, WORTH, "all of " + n + " SIDES are the last set", () -> {
                WonTogether x = Samples.game(n);
                is("worth(" + all + ", 8)", x.worth(all, 8), 0);
                is("worth(" + all + ", 9)", x.worth(all, 9), 8);
                kept("worth(" + (all + 1) + ", 8)", x, o -> o.worth(all + 1, 8), BAD_WORTH);
            });
        }
        edge(3, "A WORTH: what it was.", "each set has its own", () -> {
            WonTogether x = Samples.full();
            for (int set = 1; set < 16; set++) {
                is("worth of " + set, x.worth(set, -set), 100 * Integer.bitCount(set) - set);
            }
            for (int set = 1; set < 16; set++) {
                is("worth of " + set, x.worth(set, 0), -set);
            }
        });
        edge(3, "A WORTH: what it was.", "what was -2 is no refusal", () -> {
            WonTogether x = one(-2);
            is("worth(1, 4)", x.worth(1, 4), -2);
            is("worth(1, 5)", x.worth(1, 5), 4);
        });
        edge(3, "A WORTH: what it was.", "what was found of it before is not told any more", () -> {
            WonTogether x = Samples.alike(3, 0, 0, 6);
            told("calm(0)", x, x.calm(0), 2, 1);
            told("least(1)", x, x.least(1), -2, 1);
            x.worth(7, 9);
            told("calm(0)", x, x.calm(0), 3, 1);
            told("least(1)", x, x.least(1), -3, 1);
        });
    }

    private static void promise4() {
        edge(4, DIVIDEND, "one SIDE has itself alone", () -> {
            is("dividend(1)", one(-1000).dividend(1), -1000);
            is("dividend(1)", Samples.some().dividend(1), 5);
            is("dividend(2)", Samples.some().dividend(2), 7);
            is("dividend(4)", Samples.some().dividend(4), -3);
        });
        edge(4, DIVIDEND, "each part by 1 or -1", () -> {
            for (int part = 1; part < 16; part++) {
                WonTogether x = Samples.game(4);
                x.worth(part, 1);
                for (int set = 1; set < 16; set++) {
                    int missing = Integer.bitCount(set & ~part);
                    int due = (set & part) != part ? 0 : missing % 2 == 0 ? 1 : -1;
                    is("dividend(" + set + ") by " + part, x.dividend(set), due);
                }
            }
        });
        edge(4, DIVIDEND, "the greatest and the least there can be", () -> {
            WonTogether greatest = Samples.alike(4, -1000, 1000, -1000, 1000);
            WonTogether least = Samples.alike(4, 1000, -1000, 1000, -1000);
            is("dividend(15)", greatest.dividend(15), 15000);
            is("dividend(15)", least.dividend(15), -15000);
        });
        for (int set : new int[] {0, -1, 8, 9}) {
            edge(4, "BAD: -100000.", set + " is no set of 3 SIDES", () ->
                    refused("dividend(" + set + ")", x -> x.dividend(set), BAD_WORTH));
        }
        edge(4, "DIVIDEND.", "of all SIDES, for 1 to 4 of them, and of one SIDE more", () -> {
            for (int n : ONE_TO_FOUR) {
                WonTogether x = Samples.game(n);
                x.worth((1 << n) - 1, 6);
                is("dividend of all of " + n, x.dividend((1 << n) - 1), 6);
                kept("dividend of one more than " + n, x, o -> o.dividend(1 << n), BAD_WORTH);
            }
        });
        edge(4, "DIVIDEND.", "-2 is no refusal", () -> is("dividend(1)", one(-2).dividend(1), -2));
    }

    private static int[] numbers(int first, int last) {
        return java.util.stream.IntStream.rangeClosed(first, last).toArray();
    }

    /** Which numbers are orders of so many sides, found digit by digit. */
    private static boolean isOrder(int number, int n) {
        String digits = Integer.toString(number, 4);
        while (digits.length() < n) {
            digits = "0" + digits;
        }
        boolean each = digits.length() == n;
        for (int side = 0; side < n; side++) {
            each &= digits.indexOf('0' + side) >= 0;
        }
        return each;
    }

    private static void promise5() {
        for (int n : ONE_TO_FOUR) {
            edge(5, ORDER, "of " + n + " SIDES, every number up to one digit more", () -> {
                // An object is used for 512 calls at most: 64 numbers are asked of each.
                WonTogether x = new WonTogether();
                for (int number : numbers(-1, 1 << 2 * n + 2)) {
                    if (number % 64 == 63 || number == -1) {
                        x = Samples.alike(n, 1, 2, 3, 4);
                        x.value(0, 1);
                    }
                    boolean order = number >= 0 && isOrder(number, n);
                    kept("margin(" + number + ", 0)", x, o -> o.margin(number, 0), order ? 1 : BAD_WORTH);
                }
            });
        }
        edge(5, MARGIN, "ahead of the first is none, that has 0", () -> {
            WonTogether x = Samples.some();
            is("margin(6, 0)", x.margin(6, 0), 5);
            is("margin(18, 1)", x.margin(18, 1), 7);
            is("margin(33, 2)", x.margin(33, 2), -3);
        });
        edge(5, MARGIN, "up to the last are all", () -> {
            WonTogether x = Samples.some();
            is("margin(6, 2)", x.margin(6, 2), 10);
            is("margin(9, 1)", x.margin(9, 1), 29);
            is("margin(36, 0)", x.margin(36, 0), 28);
        });
        edge(5, MARGIN, "one SIDE alone", () -> {
            is("margin(0, 0)", one(-1000).margin(0, 0), -1000);
            kept("margin(0, 1)", one(-1000), o -> o.margin(0, 1), BAD_WORTH);
            kept("margin(0, -1)", one(-1000), o -> o.margin(0, -1), BAD_WORTH);
            kept("margin(1, 0)", one(-1000), o -> o.margin(1, 0), BAD_WORTH);
        });
        edge(5, MARGIN, "the greatest and the least there can be", () -> {
            WonTogether x = Samples.game(4, -1000, 0, 1000, 0, 0, 0, -1000, 0, 0, 0, 0, 0, 0, 0, 1000);
            is("margin(27, 0)", x.margin(27, 0), -1000);
            is("margin(27, 1)", x.margin(27, 1), 2000);
            is("margin(27, 2)", x.margin(27, 2), -2000);
            is("margin(27, 3)", x.margin(27, 3), 2000);
        });
        edge(5, MARGIN, "-2 is no refusal", () -> is("margin(0, 0)", one(-2).margin(0, 0), -2));
        for (int side : new int[] {-1, 3, 4}) {
            edge(5, "BAD: -100000.", side + " is no SIDE of 3", () ->
                    refused("margin(6, " + side + ")", x -> x.margin(6, side), BAD_WORTH));
        }
        for (int order : new int[] {-1, 0, 5, 7, 21, 63, 64, 64 + 6, 6 - 64}) {
            edge(5, "BAD: -100000.", order + " is no order of 3 SIDES", () ->
                    refused("margin(" + order + ", 0)", x -> x.margin(order, 0), BAD_WORTH));
        }
        edge(5, "BAD: -100000.", "the least and the greatest order of four, and one beyond each", () -> {
            WonTogether x = Samples.full();
            kept("margin(26, 3)", x, o -> o.margin(26, 3), BAD_WORTH);
            is("margin(27, 3)", x.margin(27, 3), 92);
            is("margin(228, 3)", x.margin(228, 3), 92);
            kept("margin(229, 3)", x, o -> o.margin(229, 3), BAD_WORTH);
        });
    }

    private static void promise6() {
        String does = "SHAPLEY (what = 0), BANZHAF (1) is THE FRACTION: 1.";
        edge(6, does, "one SIDE alone has its WORTH", () -> {
            WonTogether x = one(-1000);
            told("value(0, 0)", x, x.value(0, 0), -1000, 1);
            x.worth(1, 999);
            told("value(0, 1)", x, x.value(0, 1), 999, 1);
        });
        edge(6, SHAPLEY, "two, six and all orders of four", () -> {
            WonTogether two = Samples.game(2, 1, 0, 0);
            told("two: value(0, 0)", two, two.value(0, 0), 1, 2);
            WonTogether three = Samples.game(3, 0, 0, 1, 0, 0, 0, 0);
            told("three: value(0, 0)", three, three.value(0, 0), 1, 6);
            told("three: value(2, 0)", three, three.value(2, 0), -1, 3);
            WonTogether four = Samples.game(4, 0, 0, 0, 0, 0, 0, 1, 0, 0, 0, 0, 0, 0, 0, 0);
            told("four: value(2, 0)", four, four.value(2, 0), 1, 12);
            told("four: value(3, 0)", four, four.value(3, 0), -1, 4);
        });
        edge(6, SHAPLEY, "the greatest there can be", () -> {
            WonTogether x = Samples.game(4, 1000, -1000, 1000, -1000, 1000, -1000, 1000, -1000, 1000, -1000,
                    1000, -1000, 1000, -1000, 1000);
            told("value(0, 0)", x, x.value(0, 0), 1750, 1);
            told("value(1, 0)", x, x.value(1, 0), -250, 1);
        });
        edge(6, BANZHAF, "none is a set of the others, and all of them is one", () -> {
            WonTogether x = Samples.game(3, 1, 0, 0, 0, 0, 0, 0);
            told("with none", x, x.value(0, 1), 1, 4);
            x.worth(1, 0);
            x.worth(7, 1);
            told("with all", x, x.value(0, 1), 1, 4);
        });
        edge(6, BANZHAF, "1, 2, 4, 8 sets of the others", () -> {
            for (int n : ONE_TO_FOUR) {
                WonTogether x = Samples.game(n);
                x.worth((1 << n) - 1, 1);
                told("value(" + (n - 1) + ", 1)", x, x.value(n - 1, 1), 1, 1 << n - 1);
            }
        });
        edge(6, BANZHAF, "the greatest and the least there can be", () -> {
            WonTogether x = Samples.game(4, 1000, -1000, 1000, -1000, 1000, -1000, 1000, -1000, 1000, -1000,
                    1000, -1000, 1000, -1000, 1000);
            told("value(0, 1)", x, x.value(0, 1), 1875, 1);
            for (int set = 1; set < 16; set++) {
                x.worth(set, set % 2 == 1 ? -1000 : 1000);
            }
            told("value(0, 1)", x, x.value(0, 1), -1875, 1);
        });
        for (int side : new int[] {-1, 3, 4}) {
            edge(6, "BAD.", side + " is no SIDE of 3", () -> {
                refused("value(" + side + ", 0)", x -> x.value(side, 0), BAD);
                refused("value(" + side + ", 1)", x -> x.value(side, 1), BAD);
            });
        }
        for (int what : new int[] {-1, 2, 3}) {
            edge(6, "BAD.", "what = " + what, () -> refused("value(0, " + what + ")", x -> x.value(0, what), BAD));
        }
        edge(6, "BAD.", "the last SIDE of 1 to 4, and one more", () -> {
            for (int n : ONE_TO_FOUR) {
                WonTogether x = Samples.game(n);
                is("value(" + (n - 1) + ", 0) of " + n, x.value(n - 1, 0), 1);
                kept("value(" + n + ", 0) of " + n, x, o -> o.value(n, 0), BAD);
            }
        });
    }

    private static void promise7() {
        String does = "The two sets by which JOINING does not pay (what = 0), MORE does not pay MORE (1): 16 times the"
                + " lesser and the greater.";
        edge(7, "NONE.", "one SIDE alone has no two sets", () -> {
            is("fails(0)", one(-5).fails(0), NONE);
            is("fails(1)", one(-5).fails(1), NONE);
        });
        edge(7, JOINING, "as much apart is not more, one more is", () -> {
            WonTogether x = Samples.game(2, 3, 4, 7);
            is("3 and 4 of 7", x.fails(0), NONE);
            x.worth(3, 6);
            is("3 and 4 of 6", x.fails(0), 18);
        });
        edge(7, JOINING, "two sets with a SIDE in common do not count", () ->
                is("fails(0)", Samples.game(3, 0, 0, 10, 0, 0, 10, 15).fails(0), NONE));
        edge(7, JOINING, "the lesser first, then the greater", () -> {
            WonTogether x = Samples.alike(4, 0, 0, 0, 0);
            x.worth(15, -1);
            is("1 and 14", x.fails(0), 30);
            x.worth(6, -1);
            is("1 and 14 ahead of 2 and 4", x.fails(0), 30);
            x.worth(9, -1);
            is("1 and 8 ahead of 1 and 14", x.fails(0), 24);
            x.worth(3, -1);
            is("1 and 2 ahead of all", x.fails(0), 18);
        });
        edge(7, does, "the last two sets that can be", () -> {
            WonTogether last = Samples.alike(4, 0, 0, 0, 0);
            last.worth(15, 5);
            last.worth(7, 6);
            is("7 and 8", last.fails(0), 120);
            WonTogether more = Samples.alike(4, 0, 0, 0, 10);
            more.worth(13, 8);
            more.worth(14, 8);
            is("13 and 14", more.fails(1), 222);
            more.worth(12, 6);
            is("just as much", more.fails(1), NONE);
        });
        edge(7, MORE, "as much is not more, one more is", () -> {
            WonTogether x = Samples.game(3, 0, 5, 10, 0, 0, 10, 15);
            is("10 and 10, 15 and 5", x.fails(1), NONE);
            x.worth(7, 14);
            is("10 and 10, 14 and 5", x.fails(1), 54);
            is("no two apart", x.fails(0), NONE);
        });
        edge(7, MORE, "what both have is none: 0", () -> {
            WonTogether x = Samples.game(2, 3, 4, 7);
            is("3 and 4 of 7", x.fails(1), NONE);
            x.worth(3, 6);
            is("3 and 4 of 6", x.fails(1), 18);
        });
        edge(7, MORE, "a set and a part of it never fail", () -> {
            WonTogether x = Samples.alike(3, 100, 300, 600);
            is("fails(1)", x.fails(1), NONE);
            x = Samples.sums(-600, 300, 400, -300);
            is("sums", x.fails(1), NONE);
            is("sums", x.fails(0), NONE);
        });
        edge(7, MORE, "the greatest WORTHS there can be", () -> {
            WonTogether x = Samples.alike(4, 1000, 1000, 1000, -1000);
            is("fails(0)", x.fails(0), 18);
            is("fails(1)", x.fails(1), 18);
        });
        for (int what : new int[] {-1, 2, -3}) {
            edge(7, "BAD.", "what = " + what, () -> refused("fails(" + what + ")", x -> x.fails(what), BAD));
        }
        edge(7, "NONE.", "nothing fails, and nothing is changed", () ->
                unchanged("fails(0)", Everything.Part.SIDES, () -> Samples.sums(4, 5, 6), x -> x.fails(0), NONE));
    }

    private static void partingIs(WonTogether x, int worth, int... row) {
        is("parting(-1)", x.parting(NONE), worth);
        for (int side = 0; side < row.length; side++) {
            is("parting(" + side + ")", x.parting(side), row[side]);
        }
        kept("parting(" + row.length + ")", x, o -> o.parting(row.length), BAD_WORTH);
    }

    private static void promise8() {
        String does = "PARTING: its WORTHS (what = NONE), the least SIDE of a SIDE's set (what = its number).";
        edge(8, does, "one SIDE alone", () -> partingIs(one(-1000), -1000, 0));
        edge(8, PARTING, "of like ones the fewest sets", () -> {
            partingIs(Samples.sums(1, 2), 3, 0, 0);
            partingIs(Samples.sums(1, 2, -3), 0, 0, 0, 0);
            partingIs(Samples.sums(1, 2, -3, 7), 7, 0, 0, 0, 0);
            partingIs(Samples.game(3, 2, 2, 3, 2, 4, 3, 5), 6, 0, 1, 0);
        });
        edge(8, PARTING, "of like ones with as many sets the first row", () -> {
            WonTogether x = Samples.game(3, 0, 0, 2, 0, 2, 2, 1);
            partingIs(x, 2, 0, 0, 2);
            x.worth(3, 1);
            partingIs(x, 2, 0, 1, 0);
            x.worth(5, 1);
            partingIs(x, 2, 0, 1, 1);
            WonTogether four = Samples.alike(4, 0, 1, 1, 0);
            partingIs(four, 2, 0, 0, 2, 2);
            four.worth(12, 0);
            partingIs(four, 2, 0, 1, 0, 1);
            four.worth(10, 0);
            partingIs(four, 2, 0, 1, 1, 0);
        });
        edge(8, PARTING, "fewer sets ahead of a row that comes first", () -> {
            // {0, 1}, {2}, {3} has 1, and so has one parting in two that comes after it as a row.
            WonTogether x = Samples.game(4, 0, 0, 1, 0, 0, 0, 0, 0, 0, 0, 0, -1, 0, 0, 0);
            partingIs(x, 1, 0, 0, 2, 3);
            x.worth(14, 1);
            partingIs(x, 1, 0, 1, 1, 1);
            x.worth(6, 1);
            partingIs(x, 1, 0, 1, 1, 0);
            x.worth(10, 1);
            x.worth(6, 0);
            partingIs(x, 1, 0, 1, 0, 1);
            x.worth(13, 1);
            partingIs(x, 1, 0, 1, 0, 0);
            x.worth(15, 1);
            partingIs(x, 1, 0, 0, 0, 0);
        });
        edge(8, PARTING, "four sets ahead of none, though it is the last row", () -> {
            WonTogether x = Samples.alike(4, 1, -9, -9, -9);
            partingIs(x, 4, 0, 1, 2, 3);
            x.worth(12, 2);
            partingIs(x, 4, 0, 1, 2, 2);
            x.worth(5, 2);
            partingIs(x, 4, 0, 1, 0, 3);
            x.worth(14, 3);
            partingIs(x, 4, 0, 1, 1, 1);
        });
        edge(8, PARTING, "all SIDES alone, the greatest sum there can be", () ->
                partingIs(Samples.alike(4, 1000, -1000, -1000, -1000), 4000, 0, 1, 2, 3));
        edge(8, PARTING, "all SIDES together, the least sum there can be", () ->
                partingIs(Samples.alike(4, -1000, -1000, -1000, -1000), -1000, 0, 0, 0, 0));
        edge(8, PARTING, "one more by more sets, though fewer sets would be first", () -> {
            WonTogether x = Samples.alike(4, 1, 2, 3, 3);
            partingIs(x, 4, 0, 0, 0, 3);
            x.worth(7, 2);
            partingIs(x, 4, 0, 0, 2, 0);
        });
        edge(8, does, "-2 is no refusal", () -> is("parting(-1)", one(-2).parting(NONE), -2));
        for (int what : new int[] {-2, -3, 3, 4}) {
            edge(8, "BAD: -100000.", "what = " + what, () ->
                    refused("parting(" + what + ")", x -> x.parting(what), BAD_WORTH));
        }
    }

    /** Everything can be told to be 0, but the fraction is -1 by 2. */
    private static WonTogether noSums() {
        WonTogether x = Samples.some();
        x.weight(0, 50);
        x.quota(50);
        x.claim(0);
        x.estate(0);
        x.user(0);
        x.sides(3);
        return x;
    }

    private static void told(String call, WonTogether x, ToLongFunction<WonTogether> asked) {
        is("part(0)", x.part(0), -1);
        is("part(1)", x.part(1), 2);
        told(call, x, (int) asked.applyAsLong(x), 0, 1);
    }

    private static void promise9() {
        String does = "THE FRACTION: above (0), below (1).";
        edge(9, FRACTION, "below above 0, though above is below it", () -> {
            WonTogether x = Samples.some();
            is("part(0)", x.part(0), -1);
            is("part(1)", x.part(1), 2);
        });
        edge(9, FRACTION, "in lowest terms", () -> {
            WonTogether x = Samples.game(3, 600, 0, 0, 0, 0, 0, 0);
            told("1200 by 6", x, x.value(0, 0), 200, 1);
            x.worth(1, -3);
            told("-6 by 6", x, x.value(0, 0), -1, 1);
            told("-3 by 4", x, x.value(0, 1), -3, 4);
        });
        edge(9, FRACTION, "0 is 0 by 1, after another too", () -> {
            WonTogether x = Samples.some();
            x.sides(4);
            told("value(0, 1)", x, x.value(0, 1), 0, 1);
        });
        edge(9, FRACTION, "what is told last, by whichever call", () -> {
            WonTogether x = Samples.some();
            told("award(2, 0)", x, x.award(2, 0), 125, 1);
            told("paid(1)", x, x.paid(1), 31, 3);
            told("deegan(0)", x, x.deegan(0), 1, 3);
            told("value(2, 1)", x, x.value(2, 1), -1, 2);
            is("part(0) again", x.part(0), -1);
            is("part(1) again", x.part(1), 2);
        });
        edge(9, FRACTION, "0 by 1 by each call that can tell it, after another", () -> {
            told("value(0, 0)", noSums(), x -> x.value(0, 0));
            told("value(0, 1)", noSums(), x -> x.value(0, 1));
            told("least(0)", noSums(), x -> x.least(0));
            told("least(1)", noSums(), x -> x.least(1));
            told("end(0, 0)", noSums(), x -> x.end(0, 0));
            told("end(0, 1)", noSums(), x -> x.end(0, 1));
            told("calm(0)", noSums(), x -> x.calm(0));
            told("deegan(3)", noSums(), x -> x.deegan(3));
            for (int rule : new int[] {0, 1, 2, 3, 4}) {
                told("award(0, " + rule + ")", noSums(), x -> x.award(0, rule));
                told("award(3, " + rule + ")", noSums(), x -> x.award(3, rule));
            }
            told("paid(4)", noSums(), x -> x.paid(4));
        });
        edge(9, does, "asking changes nothing", () -> {
            unchanged("part(0)", Everything.Part.SIDES, Samples::some, x -> x.part(0), -1);
            unchanged("part(1)", Everything.Part.SIDES, Samples::some, x -> x.part(1), 2);
        });
        for (int what : new int[] {-1, 2, -2}) {
            edge(9, "BAD: -1000000000000000000.", "what = " + what, () ->
                    refused("part(" + what + ")", x -> x.part(what), BAD_PART));
        }
    }
}
