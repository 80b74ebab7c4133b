import java.util.function.Supplier;
import java.util.function.ToLongFunction;

/** Promises 27 to 29, sentence by sentence: claims on an estate. */
final class ClaimsEdges extends Edge {
    private static final String CLAIMS = "CLAIMS 0 .. 5, as they come (0 .. 1000),";
    private static final String ESTATE = "on an ESTATE E (0 at first; no more than all CLAIMS together to be shared"
            + " out).";
    private static final String BY_PART = "RULES: 0 each by its part of all.";
    private static final String GIVING = "1 EVEN GIVING: the lesser of it and one number for all.";
    private static final String LOSS = "2 EVEN LOSS: it less one number for all, 0 at least.";
    private static final String HALVES = "3 HALVES: with E no more than half of all, EVEN GIVING by half CLAIMS; else"
            + " each its CLAIM less what EVEN GIVING by half CLAIMS gives of all CLAIMS less E.";
    private static final String COMING = "4 COMING: over all orders, each takes the lesser of its CLAIM and what is"
            + " left, by how many. FRACTIONS.";
    private static final String NOTHING = "(Without CLAIMS above 0 all is 0.)";
    private static final String REFUSED = "Refused, changing nothing, the first of: BAD -2 a number is not as told; NO"
            + " -3 as told; FULL -4.";

    private ClaimsEdges() {
    }

    static void run() {
        promise27();
        promise28();
        promise29();
    }

    private static void refused(String call, Supplier<WonTogether> made, ToLongFunction<WonTogether> asked, long want) {
        unchanged(call, Everything.Part.CLAIMS, made, asked, want);
    }

    /** Without any CLAIM, with a fraction told before. */
    private static WonTogether noneTold() {
        WonTogether x = Samples.game(1, -7);
        x.value(0, 0);
        return x;
    }

    /** An ESTATE one above all CLAIMS, with a fraction told before. */
    private static WonTogether tooMuch() {
        WonTogether x = Samples.some();
        x.estate(601);
        return x;
    }

    private static void promise27() {
        String does = "A CLAIM: its number.";
        for (int v : new int[] {0, 1, 999, 1000}) {
            edge(27, CLAIMS, v + " is within 0 .. 1000", () -> {
                WonTogether x = Samples.claims(0);
                is("claim(" + v + ")", x.claim(v), 0);
                is("count(2)", x.count(2), 1);
                x.estate(v);
                told("award(0, 0)", x, x.award(0, 0), v, 1);
                x.estate(v + 1);
                kept("award of one more", x, o -> o.award(0, 0), NO);
            });
        }
        for (int v : new int[] {-2, -1, 1001, 1002}) {
            edge(27, "BAD;", v + " is too " + (v < 0 ? "small" : "large"), () -> {
                refused("claim(" + v + ")", Samples::some, x -> x.claim(v), BAD);
                refused("the first claim(" + v + ")", ClaimsEdges::noneTold, x -> x.claim(v), BAD);
            });
        }
        edge(27, does, "0 to 5, as they come", () -> {
            WonTogether x = Samples.claims(0);
            for (int k = 0; k < 6; k++) {
                is("claim(" + (10 + k) + ")", x.claim(10 + k), k);
                is("count(2)", x.count(2), k + 1);
            }
            x.estate(75);
            for (int k = 0; k < 6; k++) {
                told("award(" + k + ", 0)", x, x.award(k, 0), 10 + k, 1);
            }
        });
        edge(27, "FULL: 6.", "a seventh CLAIM", () -> {
            refused("claim(0)", Samples::full, x -> x.claim(0), FULL);
            refused("claim(1000)", Samples::full, x -> x.claim(1000), FULL);
        });
        edge(27, "FULL: 6.", "5 are not FULL", () ->
                is("claim(1)", Samples.claims(0, 1, 1, 1, 1, 1).claim(1), 5));
        edge(27, REFUSED, "a seventh CLAIM that is too large is BAD", () -> {
            refused("claim(1001)", Samples::full, x -> x.claim(1001), BAD);
            refused("claim(-1)", Samples::full, x -> x.claim(-1), BAD);
        });
    }

    private static void promise28() {
        String range = "BAD: 0 .. 6000.";
        for (int e : new int[] {0, 1, 5999, 6000}) {
            edge(28, range, e + " is within it", () -> {
                WonTogether x = Samples.some();
                is("estate(" + e + ")", x.estate(e), 250);
                is("what it was", x.estate(3), e);
            });
        }
        for (int e : new int[] {-2, -1, 6001, 6002}) {
            edge(28, range, e + " is too " + (e < 0 ? "small" : "large"), () ->
                    refused("estate(" + e + ")", Samples::some, x -> x.estate(e), BAD));
        }
        edge(28, "ESTATE: what it was.", "without CLAIMS too, above all of them too", () -> {
            WonTogether x = Samples.claims(0);
            is("estate(6000)", x.estate(6000), 0);
            is("claim(5)", x.claim(5), 0);
            is("estate(5)", x.estate(5), 6000);
            told("award(0, 1)", x, x.award(0, 1), 5, 1);
        });
    }

    /** What claims get by a rule, all by the same number below, not yet in lowest terms. */
    private static void awardIs(WonTogether x, int rule, long below, long... aboves) {
        for (int k = 0; k < aboves.length; k++) {
            Ratio due = new Ratio(aboves[k], below);
            told("award(" + k + ", " + rule + ")", x, x.award(k, rule), due.above, due.below);
        }
    }

    private static void promise29() {
        everyRule();
        singleRules();
        halves();
        nothingToShare();
        refusedAwards();
    }

    private static void everyRule() {
        String does = "What a CLAIM gets by a RULE is THE FRACTION: 1.";
        edge(29, ESTATE, "nothing, and just all CLAIMS together", () -> {
            for (int rule = 0; rule < 5; rule++) {
                awardIs(Samples.claims(0, 100, 200, 300), rule, 1, 0, 0, 0);
                awardIs(Samples.claims(600, 100, 200, 300), rule, 1, 100, 200, 300);
            }
        });
        edge(29, does, "one CLAIM alone gets all", () -> {
            for (int rule = 0; rule < 5; rule++) {
                awardIs(Samples.claims(1, 1), rule, 1, 1);
                awardIs(Samples.claims(1, 1000), rule, 1, 1);
                awardIs(Samples.claims(500, 1000), rule, 1, 500);
                awardIs(Samples.claims(501, 1000), rule, 1, 501);
                awardIs(Samples.claims(999, 1000), rule, 1, 999);
                awardIs(Samples.claims(1000, 1000), rule, 1, 1000);
            }
        });
        edge(29, does, "6 CLAIMS of 1000, the most there can be", () -> {
            WonTogether x = Samples.claims(1, 1000, 1000, 1000, 1000, 1000, 1000);
            for (int rule = 0; rule < 5; rule++) {
                told("award(5, " + rule + ") of 1", x, x.award(5, rule), 1, 6);
            }
            x.estate(5999);
            for (int rule = 0; rule < 5; rule++) {
                told("award(0, " + rule + ") of 5999", x, x.award(0, rule), 5999, 6);
            }
            x.estate(6000);
            for (int rule = 0; rule < 5; rule++) {
                told("award(0, " + rule + ") of 6000", x, x.award(0, rule), 1000, 1);
            }
        });
        edge(29, does, "a CLAIM of 0 among others gets nothing", () -> {
            for (int rule = 0; rule < 5; rule++) {
                awardIs(Samples.claims(1, 0, 7), rule, 1, 0, 1);
                awardIs(Samples.claims(7, 0, 7), rule, 1, 0, 7);
            }
        });
    }

    private static void singleRules() {
        edge(29, BY_PART, "in lowest terms", () -> awardIs(Samples.claims(1, 2, 4), 0, 3, 1, 2));
        edge(29, GIVING, "just the least CLAIM for all, one less, one more", () -> {
            awardIs(Samples.claims(300, 100, 200, 300), 1, 1, 100, 100, 100);
            awardIs(Samples.claims(299, 100, 200, 300), 1, 3, 299, 299, 299);
            WonTogether x = Samples.claims(301, 100, 200, 300);
            told("award(0, 1)", x, x.award(0, 1), 100, 1);
            told("award(1, 1)", x, x.award(1, 1), 201, 2);
            told("award(2, 1)", x, x.award(2, 1), 201, 2);
        });
        edge(29, GIVING, "just the second CLAIM, one more", () -> {
            awardIs(Samples.claims(500, 100, 200, 300), 1, 1, 100, 200, 200);
            awardIs(Samples.claims(501, 100, 200, 300), 1, 1, 100, 200, 201);
        });
        edge(29, LOSS, "0 at least: the least CLAIM gets nothing up to 300, the second up to 100", () -> {
            awardIs(Samples.claims(100, 100, 200, 300), 2, 1, 0, 0, 100);
            awardIs(Samples.claims(99, 100, 200, 300), 2, 1, 0, 0, 99);
            awardIs(Samples.claims(102, 100, 200, 300), 2, 1, 0, 1, 101);
            awardIs(Samples.claims(300, 100, 200, 300), 2, 1, 0, 100, 200);
            awardIs(Samples.claims(303, 100, 200, 300), 2, 1, 1, 101, 201);
        });
        edge(29, COMING, "all orders of 1 to 6 CLAIMS", () -> {
            for (int n = 1; n <= 6; n++) {
                WonTogether x = Samples.claims(1);
                for (int k = 0; k < n; k++) {
                    x.claim(k == 0 ? 1000 : 1);
                }
                told("award(0, 4) of " + n, x, x.award(0, 4), 1, n);
                x.estate(n);
                // The first one leaves as many as have come ahead of it.
                Ratio due = new Ratio(n + 1, 2);
                told("award(0, 4) of " + n + " for all", x, x.award(0, 4), due.above, due.below);
            }
        });
        edge(29, COMING, "what is left is 0 at least", () -> {
            WonTogether x = Samples.claims(100, 100, 200, 300);
            awardIs(x, 4, 3, 100, 100, 100);
            x.estate(101);
            awardIs(x, 4, 6, 200, 203, 203);
        });
    }

    private static void halves() {
        edge(29, HALVES, "just half of all, one less, one more", () -> {
            awardIs(Samples.claims(300, 100, 200, 300), 3, 1, 50, 100, 150);
            awardIs(Samples.claims(299, 100, 200, 300), 3, 1, 50, 100, 149);
            awardIs(Samples.claims(301, 100, 200, 300), 3, 1, 50, 100, 151);
        });
        edge(29, HALVES, "all CLAIMS are an odd number: the whole numbers beside half of it", () -> {
            awardIs(Samples.claims(5, 3, 8), 3, 2, 3, 7);
            awardIs(Samples.claims(6, 3, 8), 3, 2, 3, 9);
            awardIs(Samples.claims(0, 1), 3, 1, 0);
            awardIs(Samples.claims(1, 1), 3, 1, 1);
        });
        edge(29, HALVES, "just half the least CLAIM for all, and as little lost by all", () -> {
            awardIs(Samples.claims(150, 100, 200, 300), 3, 1, 50, 50, 50);
            awardIs(Samples.claims(149, 100, 200, 300), 3, 3, 149, 149, 149);
            awardIs(Samples.claims(151, 100, 200, 300), 3, 2, 100, 101, 101);
            awardIs(Samples.claims(450, 100, 200, 300), 3, 1, 50, 150, 250);
            awardIs(Samples.claims(451, 100, 200, 300), 3, 3, 151, 451, 751);
            awardIs(Samples.claims(449, 100, 200, 300), 3, 2, 100, 299, 499);
        });
    }

    private static void nothingToShare() {
        edge(29, NOTHING, "CLAIMS of 0, after another fraction", () -> {
            for (int rule = 0; rule < 5; rule++) {
                for (int many = 1; many <= 6; many++) {
                    WonTogether x = noneTold();
                    for (int k = 0; k < many; k++) {
                        x.claim(0);
                    }
                    told("award(" + (many - 1) + ", " + rule + ")", x, x.award(many - 1, rule), 0, 1);
                }
            }
        });
        edge(29, "NO: ESTATE above all CLAIMS.", "CLAIMS of 0 and an ESTATE of 1", () -> {
            for (int rule = 0; rule < 5; rule++) {
                int asked = rule;
                refused("award(0, " + rule + ")", () -> Samples.claims(1, 0, 0), x -> x.award(0, asked), NO);
            }
        });
    }

    private static void refusedAwards() {
        edge(29, "NO: ESTATE above all CLAIMS.", "one above", () -> {
            for (int k = 0; k < 15; k++) {
                int claim = k / 5;
                int rule = k % 5;
                refused("award(" + claim + ", " + rule + ")", ClaimsEdges::tooMuch, x -> x.award(claim, rule), NO);
            }
        });
        edge(29, "NO: ESTATE above all CLAIMS.", "one more CLAIM makes it enough", () -> {
            WonTogether x = tooMuch();
            x.claim(0);
            kept("award(0, 0)", x, o -> o.award(0, 0), NO);
            x.claim(1);
            told("award(4, 0)", x, x.award(4, 0), 1, 1);
        });
        edge(29, REFUSED, "BAD comes ahead of NO", () -> {
            refused("award(3, 0)", ClaimsEdges::tooMuch, x -> x.award(3, 0), BAD);
            refused("award(-1, 0)", ClaimsEdges::tooMuch, x -> x.award(-1, 0), BAD);
            refused("award(0, 5)", ClaimsEdges::tooMuch, x -> x.award(0, 5), BAD);
            refused("award(0, -1)", ClaimsEdges::tooMuch, x -> x.award(0, -1), BAD);
        });
        edge(29, "BAD;", "no CLAIMS", () -> {
            refused("award(0, 0)", ClaimsEdges::noneTold, x -> x.award(0, 0), BAD);
            refused("award(-1, 0)", ClaimsEdges::noneTold, x -> x.award(-1, 0), BAD);
            refused("award(0, 0) of 1", () -> Samples.claims(1), x -> x.award(0, 0), BAD);
        });
        for (int claim : new int[] {-1, 3, 4}) {
            edge(29, "BAD;", claim + " is no CLAIM of 3", () ->
                    refused("award(" + claim + ", 0)", Samples::some, x -> x.award(claim, 0), BAD));
        }
        for (int rule : new int[] {-1, 5, 6}) {
            edge(29, "BAD;", rule + " is no RULE", () ->
                    refused("award(0, " + rule + ")", Samples::some, x -> x.award(0, rule), BAD));
        }
        edge(29, "BAD;", "the last of 6 CLAIMS, and one more", () -> {
            WonTogether x = Samples.full();
            told("award(5, 4)", x, x.award(5, 4), 995, 1);
            refused("award(6, 4)", Samples::full, y -> y.award(6, 4), BAD);
        });
    }
}
