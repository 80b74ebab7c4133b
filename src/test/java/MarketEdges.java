import java.util.function.ToLongFunction;

/** Promises 36 to 42, sentence by sentence: a market of pairs, and how many there are of all. */
final class MarketEdges extends Edge {
    private static final String MARKET = "A MARKET: BUYERS, SELLERS (0 .. 4 each; 0 at first)";
    private static final String GAINS = "what a BUYER gains by a SELLER's thing (0 .. 1000; 0 at first), one of each at"
            + " most.";
    private static final String MOST = "MOST: the greatest sum of pairs; of such givings the first as a row by BUYERS"
            + " (none ahead of SELLERS by numbers).";
    private static final String CHEAP = "CHEAP price of a SELLER: MOST with its thing there twice less MOST;";
    private static final String DEAR = "DEAR: MOST less that without it.";
    private static final String PRICES = "TOLD PRICES (0 .. 1000; 0 at first)";
    private static final String CLEAR = "CLEAR: what each BUYER can gain at most less the price (0 at least), together"
            + " with all prices, is MOST.";
    private static final int BAD_SELLER = -10;

    private MarketEdges() {
    }

    static void run() {
        promise36();
        promise37();
        promise38();
        promise39();
        promise40();
        promise41();
        promise42();
    }

    private static void refused(String call, ToLongFunction<WonTogether> asked, long want) {
        unchanged(call, Everything.Part.MARKET, Samples::some, asked, want);
    }

    private static WonTogether sized(int buyers, int sellers) {
        WonTogether x = new WonTogether();
        x.market(buyers, sellers);
        return x;
    }

    /** Four by four, all gains alike. */
    private static WonTogether fourAlike(int gain) {
        int[] row = {gain, gain, gain, gain};
        return Samples.market(row, row, row, row);
    }

    private static void promise36() {
        String does = "BUYERS, SELLERS; all gains, TOLD PRICES 0: 1.";
        edge(36, MARKET, "every number within 0 .. 4 of each", () -> {
            for (int k = 0; k < 25; k++) {
                int b = k / 5;
                int s = k % 5;
                WonTogether x = Samples.some();
                is("market(" + b + ", " + s + ")", x.market(b, s), 1);
                is("count(5)", x.count(5), b);
                is("count(6)", x.count(6), s);
                is("the last gain", x.gain(b - 1, s - 1, 1), b == 0 || s == 0 ? BAD : 0);
                kept("a BUYER more", x, o -> o.gain(b, 0, 1), BAD);
                kept("a SELLER more", x, o -> o.tell(s, 1), BAD);
                is("the last price", x.tell(s - 1, 1), s == 0 ? BAD : 0);
            }
        });
        for (int many : new int[] {-2, -1, 5, 6}) {
            edge(36, "BAD.", many + " is too " + (many < 0 ? "small" : "large"), () -> {
                refused("market(" + many + ", 0)", x -> x.market(many, 0), BAD);
                refused("market(4, " + many + ")", x -> x.market(4, many), BAD);
                refused("market(" + many + ", " + many + ")", x -> x.market(many, many), BAD);
            });
        }
        edge(36, does, "as many as before", () -> {
            WonTogether x = Samples.some();
            is("market(3, 2)", x.market(3, 2), 1);
            for (int k = 0; k < 6; k++) {
                is("gain of " + k / 2 + " by " + k % 2, x.gain(k / 2, k % 2, 0), 0);
            }
            is("price of 0", x.tell(0, 0), 0);
            is("price of 1", x.tell(1, 0), 0);
        });
        edge(36, does, "from the most to none and back", () -> {
            WonTogether x = Samples.full();
            x.market(0, 0);
            is("most(-1)", x.most(NONE), 0);
            x.market(4, 4);
            for (int k = 0; k < 16; k++) {
                is("gain of " + k / 4 + " by " + k % 4, x.gain(k / 4, k % 4, 0), 0);
            }
            for (int s = 0; s < 4; s++) {
                is("price of " + s, x.tell(s, 0), 0);
            }
        });
        edge(36, does, "nothing else", () -> {
            for (Everything.Part part : Everything.Part.values()) {
                WonTogether x = Samples.some();
                WonTogether twin = Samples.some();
                x.market(3, 2);
                for (int k = 0; k < 6; k++) {
                    twin.gain(k / 2, k % 2, 0);
                }
                twin.tell(0, 0);
                twin.tell(1, 0);
                is("part(0)", x.part(0), -1);
                is("part(1)", x.part(1), 2);
                sameSeen("market(3, 2)", Everything.of(x, part), Everything.of(twin, part));
            }
        });
    }

    private static void promise37() {
        for (int v : new int[] {0, 1, 999, 1000}) {
            edge(37, GAINS, v + " is within 0 .. 1000", () -> {
                WonTogether x = Samples.some();
                is("gain(2, 1, " + v + ")", x.gain(2, 1, v), 1);
                is("what it was", x.gain(2, 1, 5), v);
            });
        }
        for (int v : new int[] {-2, -1, 1001, 1002}) {
            edge(37, "BAD.", v + " is too " + (v < 0 ? "small" : "large"), () ->
                    refused("gain(0, 0, " + v + ")", x -> x.gain(0, 0, v), BAD));
        }
        for (int buyer : new int[] {-1, 3, 4}) {
            edge(37, "BAD.", buyer + " is no BUYER of 3", () ->
                    refused("gain(" + buyer + ", 0, 1)", x -> x.gain(buyer, 0, 1), BAD));
        }
        for (int seller : new int[] {-1, 2, 3}) {
            edge(37, "BAD.", seller + " is no SELLER of 2", () ->
                    refused("gain(0, " + seller + ", 1)", x -> x.gain(0, seller, 1), BAD));
        }
        edge(37, "BAD.", "no BUYERS, no SELLERS, neither", () -> {
            kept("gain(0, 0, 1)", sized(0, 4), o -> o.gain(0, 0, 1), BAD);
            kept("gain(0, 0, 1)", sized(4, 0), o -> o.gain(0, 0, 1), BAD);
            kept("gain(0, 0, 1)", new WonTogether(), o -> o.gain(0, 0, 1), BAD);
        });
        edge(37, "A gain: what it was.", "each BUYER by each SELLER has its own", () -> {
            WonTogether x = sized(4, 4);
            for (int k = 0; k < 16; k++) {
                is("gain of " + k / 4 + " by " + k % 4, x.gain(k / 4, k % 4, 100 + k), 0);
            }
            for (int k = 0; k < 16; k++) {
                is("gain of " + k / 4 + " by " + k % 4, x.gain(k / 4, k % 4, 0), 100 + k);
            }
            kept("gain(4, 0, 1)", x, o -> o.gain(4, 0, 1), BAD);
            kept("gain(0, 4, 1)", x, o -> o.gain(0, 4, 1), BAD);
        });
    }

    private static void mostIs(WonTogether x, int sum, int... row) {
        is("most(-1)", x.most(NONE), sum);
        for (int b = 0; b < row.length; b++) {
            is("most(" + b + ")", x.most(b), row[b]);
        }
        kept("most(" + row.length + ")", x, o -> o.most(row.length), BAD_SELLER);
    }

    private static void promise38() {
        String does = "MOST (what = NONE), the SELLER of BUYER what (NONE).";
        edge(38, does, "no BUYERS, no SELLERS, neither", () -> {
            mostIs(new WonTogether(), 0);
            mostIs(sized(0, 4), 0);
            mostIs(sized(4, 0), 0, NONE, NONE, NONE, NONE);
        });
        edge(38, does, "one of each", () -> {
            mostIs(Samples.market(new int[] {0}), 0, NONE);
            mostIs(Samples.market(new int[] {1}), 1, 0);
            mostIs(Samples.market(new int[] {1000}), 1000, 0);
        });
        edge(38, does, "fewer BUYERS and SELLERS after more were asked for", () -> {
            WonTogether x = Samples.full();
            for (int many = 4; many >= 0; many--) {
                x.market(many, many);
                for (int k = 0; k < many; k++) {
                    x.gain(k, k, 900 + k);
                }
                int[] row = new int[many];
                int sum = 0;
                for (int k = 0; k < many; k++) {
                    row[k] = k;
                    sum += 900 + k;
                }
                mostIs(x, sum, row);
                for (int s = 0; s < many; s++) {
                    is("price(" + s + ", 0) of " + many, x.price(s, 0), 0);
                    is("price(" + s + ", 1) of " + many, x.price(s, 1), 900 + s);
                }
                is("clear() of " + many, x.clear(), 1);
            }
        });
        edge(38, GAINS, "one of each at most", () -> {
            mostIs(Samples.market(new int[] {5, 4, 3, 2}), 5, 0);
            mostIs(Samples.market(new int[] {5}, new int[] {4}, new int[] {6}, new int[] {3}), 6,
                    NONE, NONE, 0, NONE);
            mostIs(Samples.market(new int[] {9, 8}, new int[] {9, 1}), 17, 1, 0);
        });
        edge(38, MOST, "none ahead of SELLERS", () -> {
            mostIs(Samples.market(new int[] {5}, new int[] {5}), 5, NONE, 0);
            mostIs(Samples.market(new int[] {0, 0}, new int[] {0, 3}), 3, NONE, 1);
            mostIs(fourAlike(0), 0, NONE, NONE, NONE, NONE);
        });
        edge(38, MOST, "SELLERS by numbers", () -> {
            mostIs(Samples.market(new int[] {4, 4, 4, 4}), 4, 0);
            mostIs(fourAlike(1), 4, 0, 1, 2, 3);
            mostIs(Samples.market(new int[] {3, 4}, new int[] {4, 5}), 8, 0, 1);
            mostIs(Samples.market(new int[] {1, 2, 2}, new int[] {2, 2, 1}), 4, 1, 0);
        });
        edge(38, MOST, "the greatest sum there can be", () -> mostIs(fourAlike(1000), 4000, 0, 1, 2, 3));
        edge(38, MOST, "the greatest sum by the last row of all", () ->
                mostIs(Samples.market(new int[] {0, 0, 0, 1}, new int[] {0, 0, 1, 0}, new int[] {0, 1, 0, 0},
                        new int[] {1, 0, 0, 0}), 4, 3, 2, 1, 0));
        edge(38, does, "asking changes nothing", () -> {
            refused("most(-1)", x -> x.most(NONE), 14);
            refused("most(2)", x -> x.most(2), NONE);
        });
        for (int what : new int[] {-3, -2, 3, 4}) {
            edge(38, "BAD: -10.", "what = " + what + " of 3 BUYERS", () ->
                    refused("most(" + what + ")", x -> x.most(what), BAD_SELLER));
        }
    }

    private static void priceIs(WonTogether x, int seller, int cheap, int dear) {
        is("price(" + seller + ", 0)", x.price(seller, 0), cheap);
        is("price(" + seller + ", 1)", x.price(seller, 1), dear);
    }

    private static void promise39() {
        String does = "CHEAP (0), DEAR (1) price of a SELLER.";
        edge(39, does, "no BUYERS", () -> {
            for (int s = 0; s < 4; s++) {
                priceIs(sized(0, 4), s, 0, 0);
            }
        });
        edge(39, does, "one of each", () -> priceIs(Samples.market(new int[] {1000}), 0, 0, 1000));
        edge(39, CHEAP, "what the next BUYER would gain", () -> {
            priceIs(Samples.market(new int[] {1000}, new int[] {999}), 0, 999, 1000);
            priceIs(Samples.market(new int[] {7}, new int[] {7}), 0, 7, 7);
        });
        edge(39, CHEAP, "each of four things twice", () -> {
            WonTogether x = fourAlike(1000);
            for (int s = 0; s < 4; s++) {
                priceIs(x, s, 0, 1000);
            }
            WonTogether three = Samples.market(new int[] {6, 0, 0}, new int[] {5, 3, 0}, new int[] {4, 0, 1},
                    new int[] {3, 0, 0});
            // 6 + 3 + 1; a second thing of 0 goes to the last BUYER, one of 1 or 2 to none.
            priceIs(three, 0, 3, 6);
            priceIs(three, 1, 0, 3);
            priceIs(three, 2, 0, 1);
        });
        edge(39, DEAR, "without the only thing, and without one that none wants", () -> {
            priceIs(Samples.market(new int[] {8, 0}), 0, 0, 8);
            priceIs(Samples.market(new int[] {8, 0}), 1, 0, 0);
            priceIs(Samples.market(new int[] {8, 7}), 0, 0, 1);
            priceIs(Samples.market(new int[] {8, 7}), 1, 0, 0);
        });
        edge(39, does, "asking changes nothing", () -> {
            refused("price(0, 0)", x -> x.price(0, 0), 6);
            refused("price(1, 1)", x -> x.price(1, 1), 6);
        });
        for (int seller : new int[] {-1, 2, 3, 4}) {
            edge(39, "BAD.", seller + " is no SELLER of 2", () -> {
                refused("price(" + seller + ", 0)", x -> x.price(seller, 0), BAD);
                refused("price(" + seller + ", 1)", x -> x.price(seller, 1), BAD);
            });
        }
        for (int what : new int[] {-1, 2, 3}) {
            edge(39, "BAD.", "what = " + what, () ->
                    refused("price(0, " + what + ")", x -> x.price(0, what), BAD));
        }
        edge(39, "BAD.", "no SELLERS; the last of 4, and one more", () -> {
            kept("price(0, 0)", sized(4, 0), o -> o.price(0, 0), BAD);
            kept("price(0, 1)", new WonTogether(), o -> o.price(0, 1), BAD);
            is("price(3, 0)", sized(4, 4).price(3, 0), 0);
            kept("price(4, 0)", sized(4, 4), o -> o.price(4, 0), BAD);
        });
    }

    private static void promise40() {
        for (int v : new int[] {0, 1, 999, 1000}) {
            edge(40, PRICES, v + " is within 0 .. 1000", () -> {
                WonTogether x = Samples.some();
                is("tell(1, " + v + ")", x.tell(1, v), 4);
                is("what it was", x.tell(1, 5), v);
            });
        }
        for (int v : new int[] {-2, -1, 1001, 1002}) {
            edge(40, "BAD.", v + " is too " + (v < 0 ? "small" : "large"), () ->
                    refused("tell(0, " + v + ")", x -> x.tell(0, v), BAD));
        }
        for (int seller : new int[] {-1, 2, 3, 4}) {
            edge(40, "BAD.", seller + " is no SELLER of 2", () ->
                    refused("tell(" + seller + ", 1)", x -> x.tell(seller, 1), BAD));
        }
        edge(40, "BAD.", "no SELLERS; the last of 4, and one more", () -> {
            kept("tell(0, 1)", sized(4, 0), o -> o.tell(0, 1), BAD);
            kept("tell(0, 1)", new WonTogether(), o -> o.tell(0, 1), BAD);
            kept("tell(4, 1)", sized(4, 4), o -> o.tell(4, 1), BAD);
        });
        edge(40, "A TOLD PRICE: what it was.", "each SELLER has its own, without BUYERS too", () -> {
            WonTogether x = sized(0, 4);
            for (int s = 0; s < 4; s++) {
                is("tell(" + s + ", " + (7 + s) + ")", x.tell(s, 7 + s), 0);
            }
            for (int s = 0; s < 4; s++) {
                is("tell(" + s + ", 0)", x.tell(s, 0), 7 + s);
            }
        });
    }

    private static void clearIs(WonTogether x, int due, int... prices) {
        StringBuilder told = new StringBuilder("clear() by prices");
        for (int s = 0; s < prices.length; s++) {
            x.tell(s, prices[s]);
            told.append(' ').append(prices[s]);
        }
        is(told.toString(), x.clear(), due);
    }

    private static void promise41() {
        String does = "Whether they CLEAR: 1, 0.";
        edge(41, does, "no BUYERS, no SELLERS, neither", () -> {
            clearIs(new WonTogether(), 1);
            clearIs(sized(4, 0), 1);
            clearIs(sized(0, 4), 1, 0, 0, 0, 0);
            clearIs(sized(0, 4), 0, 0, 0, 0, 1);
        });
        edge(41, CLEAR, "0 at least is gained by a BUYER", () -> {
            clearIs(Samples.market(new int[] {5}), 1, 0);
            clearIs(Samples.market(new int[] {5}), 1, 5);
            clearIs(Samples.market(new int[] {5}), 0, 6);
            clearIs(Samples.market(new int[] {5}), 0, 1000);
        });
        edge(41, CLEAR, "just the CHEAP price, one less; just the DEAR price, one more", () -> {
            WonTogether x = Samples.market(new int[] {8}, new int[] {5});
            clearIs(x, 0, 4);
            clearIs(x, 1, 5);
            clearIs(x, 1, 8);
            clearIs(x, 0, 9);
        });
        edge(41, CLEAR, "each BUYER by the SELLER that is best for it", () -> {
            WonTogether x = Samples.some();
            clearIs(x, 0, 6, 4);
            clearIs(x, 1, 6, 5);
            clearIs(x, 1, 7, 6);
            clearIs(x, 0, 8, 6);
            clearIs(x, 0, 5, 4);
        });
        edge(41, CLEAR, "the greatest there can be", () -> {
            clearIs(fourAlike(1000), 1, 0, 0, 0, 0);
            clearIs(fourAlike(1000), 1, 1000, 1000, 1000, 1000);
            clearIs(fourAlike(1000), 0, 1000, 1000, 1000, 999);
            clearIs(fourAlike(0), 0, 1000, 1000, 1000, 1000);
        });
        edge(41, does, "asking changes nothing", () -> refused("clear()", x -> x.clear(), 0));
    }

    private static void promise42() {
        String does = "How many: 0 SIDES, 1 VOTERS, 2 CLAIMS, 3 places (the ROOT, too), 4 USERS, 5 BUYERS, 6 SELLERS.";
        edge(42, does, "of the object with something of everything", () -> {
            int[] due = {3, 4, 3, 5, 4, 3, 2};
            for (int what = 0; what < 7; what++) {
                is("count(" + what + ")", Samples.some().count(what), due[what]);
            }
        });
        edge(42, does, "the fullest of everything", () -> {
            int[] due = {4, 8, 6, 10, 8, 4, 4};
            for (int what = 0; what < 7; what++) {
                is("count(" + what + ")", Samples.full().count(what), due[what]);
            }
        });
        edge(42, does, "one more of each leaves the others", () -> {
            WonTogether x = Samples.some();
            x.sides(4);
            x.voter(1);
            x.voter(1);
            x.claim(1);
            x.claim(1);
            x.claim(1);
            x.place(4, 1);
            x.user(5);
            x.user(0);
            x.user(0);
            x.market(1, 4);
            int[] due = {4, 6, 6, 6, 7, 1, 4};
            for (int what = 0; what < 7; what++) {
                is("count(" + what + ")", x.count(what), due[what]);
            }
        });
        edge(42, does, "what is FULL counts no more", () -> {
            WonTogether x = Samples.full();
            x.voter(1);
            x.claim(1);
            x.place(0, 1);
            x.user(0);
            int[] due = {4, 8, 6, 10, 8, 4, 4};
            for (int what = 0; what < 7; what++) {
                is("count(" + what + ")", x.count(what), due[what]);
            }
        });
        for (int what : new int[] {-2, -1, 7, 8}) {
            edge(42, "BAD.", "what = " + what, () -> refused("count(" + what + ")", x -> x.count(what), BAD));
        }
    }
}
