import java.util.function.Supplier;
import java.util.function.ToLongFunction;

/** Promises 19 to 26, sentence by sentence: votes. */
final class VotesEdges extends Edge {
    private static final String VOTERS = "VOTERS 0 .. 7, as they come, with WEIGHTS (0 .. 50),";
    private static final String QUOTA = "and a QUOTA (1 .. 400; 1 at first)";
    private static final String WINS = "a set WINS by as many together.";
    private static final String LEAST = "LEAST ones: WIN, and no part of them does.";
    private static final String TURNS = "TURNS of a VOTER: sets without it that do not WIN, and do with it.";
    private static final String PIVOTS = "PIVOTS: in how many of all orders it is the one by whom those up to it WIN.";
    private static final String DEEGAN = "DEEGAN: the sum over LEAST sets with it of 1 by how many are in it, by how"
            + " many LEAST sets there are.";
    private static final String BLOCKS = "BLOCKS: no set without it WINS, but all together do.";
    private static final String SAME = "SAME: the row of whole numbers with the least sum, then the least QUOTA (1 on),"
            + " then the first, by which the same sets WIN: for 5 VOTERS at most, sums up to 12.";
    private static final String REFUSED = "Refused, changing nothing, the first of: BAD -2 a number is not as told; NO"
            + " -3 as told; FULL -4.";

    private VotesEdges() {
    }

    static void run() {
        promise19();
        promise20();
        promise21();
        promise22();
        promise23();
        promise24();
        promise25();
        promise26();
    }

    private static void refused(String call, Supplier<WonTogether> made, ToLongFunction<WonTogether> asked, long want) {
        unchanged(call, Everything.Part.VOTES, made, asked, want);
    }

    private static WonTogether none() {
        return new WonTogether();
    }

    /** Without any VOTER, with a fraction told before. */
    private static WonTogether noneTold() {
        WonTogether x = Samples.game(1, -7);
        x.value(0, 0);
        return x;
    }

    /** Nobody wins, with a fraction told before. */
    private static WonTogether losing() {
        WonTogether x = Samples.some();
        x.quota(11);
        return x;
    }

    private static WonTogether withVoters(int many) {
        WonTogether x = Samples.some();
        for (int voter = 4; voter < many; voter++) {
            x.voter(1);
        }
        return x;
    }

    private static void promise19() {
        for (int weight : new int[] {0, 1, 49, 50}) {
            edge(19, VOTERS, "a WEIGHT of " + weight + " is within 0 .. 50", () -> {
                WonTogether x = Samples.some();
                is("voter(" + weight + ")", x.voter(weight), 4);
                is("count(1)", x.count(1), 5);
                is("its weight", x.weight(4, 0), weight);
            });
        }
        for (int weight : new int[] {-2, -1, 51, 52}) {
            edge(19, "BAD;", "a WEIGHT of " + weight + " is too " + (weight < 0 ? "small" : "large"), () -> {
                refused("voter(" + weight + ")", Samples::some, x -> x.voter(weight), BAD);
                refused("the first voter(" + weight + ")", VotesEdges::noneTold, x -> x.voter(weight), BAD);
            });
        }
        edge(19, "A VOTER: its number.", "0 to 7, as they come", () -> {
            WonTogether x = none();
            for (int k = 0; k < 8; k++) {
                is("voter(" + (50 - k) + ")", x.voter(50 - k), k);
                is("count(1)", x.count(1), k + 1);
            }
            for (int k = 0; k < 8; k++) {
                is("weight of " + k, x.weight(k, 0), 50 - k);
            }
        });
        edge(19, "FULL: 8.", "a ninth VOTER", () -> {
            refused("voter(0)", Samples::full, x -> x.voter(0), FULL);
            refused("voter(50)", Samples::full, x -> x.voter(50), FULL);
        });
        edge(19, REFUSED, "a ninth VOTER of a wrong WEIGHT is BAD", () -> {
            refused("voter(51)", Samples::full, x -> x.voter(51), BAD);
            refused("voter(-1)", Samples::full, x -> x.voter(-1), BAD);
        });
        edge(19, "FULL: 8.", "7 are not FULL", () ->
                is("voter(3)", withVoters(7).voter(3), 7));
    }

    private static void promise20() {
        String does = "A WEIGHT: what it was.";
        for (int weight : new int[] {0, 1, 49, 50}) {
            edge(20, VOTERS, "a WEIGHT of " + weight + " is within 0 .. 50", () -> {
                WonTogether x = Samples.some();
                is("weight(3, " + weight + ")", x.weight(3, weight), 1);
                is("what it was", x.weight(3, 2), weight);
            });
        }
        for (int weight : new int[] {-2, -1, 51, 52}) {
            edge(20, "BAD.", "a WEIGHT of " + weight + " is too " + (weight < 0 ? "small" : "large"), () ->
                    refused("weight(3, " + weight + ")", Samples::some, x -> x.weight(3, weight), BAD));
        }
        for (int voter : new int[] {-1, 4, 7, 8}) {
            edge(20, "BAD.", voter + " is no VOTER of 4", () ->
                    refused("weight(" + voter + ", 1)", Samples::some, x -> x.weight(voter, 1), BAD));
        }
        edge(20, "BAD.", "no VOTERS", () ->
                refused("weight(0, 1)", VotesEdges::noneTold, x -> x.weight(0, 1), BAD));
        edge(20, "BAD.", "the last of 8 VOTERS, and one more", () -> {
            is("weight(7, 0)", Samples.full().weight(7, 0), 43);
            refused("weight(8, 0)", Samples::full, x -> x.weight(8, 0), BAD);
        });
        edge(20, does, "sets win and SAME is told by it at once", () -> {
            WonTogether x = Samples.voters(5, 4, 3);
            is("same(0)", x.same(0), 1);
            is("weight(1, 0)", x.weight(1, 0), 3);
            is("wins(3)", x.wins(3), 0);
            is("same(0)", x.same(0), 0);
            is("weight(0, 50)", x.weight(0, 50), 4);
            is("wins(1)", x.wins(1), 1);
            is("wins(2)", x.wins(2), 0);
            is("same(0)", x.same(0), 1);
            is("same(1)", x.same(1), 0);
        });
    }

    private static void promise21() {
        String does = "QUOTA: what it was.";
        for (int v : new int[] {1, 2, 399, 400}) {
            edge(21, QUOTA, v + " is within 1 .. 400", () -> {
                WonTogether x = Samples.some();
                is("quota(" + v + ")", x.quota(v), 6);
                is("what it was", x.quota(6), v);
            });
        }
        for (int v : new int[] {-1, 0, 401, 402}) {
            edge(21, "BAD.", v + " is too " + (v < 1 ? "small" : "large"), () ->
                    refused("quota(" + v + ")", Samples::some, x -> x.quota(v), BAD));
        }
        edge(21, does, "without VOTERS too", () -> {
            WonTogether x = none();
            is("quota(400)", x.quota(400), 1);
            is("quota(1)", x.quota(1), 400);
        });
        edge(21, does, "sets win and SAME is told by it at once", () -> {
            WonTogether x = Samples.voters(4, 4, 3);
            is("same(1)", x.same(1), 0);
            is("quota(3)", x.quota(3), 4);
            is("wins(2)", x.wins(2), 1);
            is("same(1)", x.same(1), 1);
        });
    }

    private static void promise22() {
        edge(22, WINS, "just the QUOTA is enough, one less is not", () -> {
            WonTogether x = Samples.voters(7, 4, 3);
            is("7 of 7", x.wins(3), 1);
            x.quota(8);
            is("7 of 8", x.wins(3), 0);
            x.quota(4);
            is("4 of 4", x.wins(1), 1);
            is("3 of 4", x.wins(2), 0);
        });
        edge(22, WINS, "400 by all 8 VOTERS of 50", () -> {
            WonTogether x = Samples.voters(400, 50, 50, 50, 50, 50, 50, 50, 50);
            is("wins(255)", x.wins(255), 1);
            is("wins(254)", x.wins(254), 0);
            is("wins(127)", x.wins(127), 0);
            x.weight(7, 49);
            is("399 of 400", x.wins(255), 0);
        });
        edge(22, WINS, "each set of 8 VOTERS", () -> {
            WonTogether x = none();
            for (int set = 1; set < 256; set++) {
                // An object is used for 512 calls at most.
                if (set % 100 == 1) {
                    x = Samples.voters(1, 1, 2, 4, 8, 16, 32, 32, 32);
                }
                int weight = set % 64 + 32 * (set / 64 % 2) + 32 * (set / 128);
                x.quota(weight);
                is("wins(" + set + ") with just the QUOTA", x.wins(set), 1);
                x.quota(weight + 1);
                is("wins(" + set + ") with one less", x.wins(set), 0);
            }
        });
        edge(22, "Whether a set WINS: 1, 0.", "none has 0, and never wins", () -> {
            is("wins(0)", Samples.voters(1, 50).wins(0), 0);
            is("wins(0)", Samples.voters(1, 0).wins(0), 0);
            is("wins(0) without VOTERS", none().wins(0), 0);
        });
        edge(22, "Whether a set WINS: 1, 0.", "asking changes nothing", () -> {
            refused("wins(3)", Samples::some, x -> x.wins(3), 1);
            refused("wins(12)", Samples::some, x -> x.wins(12), 0);
        });
        for (int set : new int[] {-1, 16, 17, 32}) {
            edge(22, "BAD.", set + " is no set of 4 VOTERS", () ->
                    refused("wins(" + set + ")", Samples::some, x -> x.wins(set), BAD));
        }
        edge(22, "BAD.", "all of 0 to 8 VOTERS, and one VOTER more", () -> {
            WonTogether x = none();
            for (int n : NONE_TO_EIGHT) {
                is("all of " + n, x.wins((1 << n) - 1), n == 0 ? 0 : 1);
                kept("one more than " + n, x, o -> o.wins(1 << n), BAD);
                x.voter(1);
            }
        });
    }

    private static void minimalIs(WonTogether x, int... sets) {
        is("minimal(-1)", x.minimal(NONE), sets.length);
        for (int k = 0; k < sets.length; k++) {
            is("minimal(" + k + ")", x.minimal(k), sets[k]);
        }
        is("minimal(" + sets.length + ")", x.minimal(sets.length), NONE);
    }

    private static void promise23() {
        String does = "LEAST ones: how many (what = NONE), the i-th as a number, rising (what = i).";
        edge(23, does, "no VOTERS", () -> minimalIs(none()));
        edge(23, does, "no set WINS", () -> minimalIs(losing()));
        edge(23, LEAST, "one VOTER alone", () -> {
            minimalIs(Samples.voters(1, 1), 1);
            minimalIs(Samples.voters(2, 1));
            minimalIs(Samples.voters(1, 0));
        });
        edge(23, LEAST, "a WEIGHT of 0 is never needed", () -> minimalIs(Samples.voters(1, 0, 1, 0, 1), 2, 8));
        edge(23, LEAST, "all together, and each alone", () -> {
            minimalIs(Samples.voters(8, 1, 1, 1, 1, 1, 1, 1, 1), 255);
            minimalIs(Samples.voters(1, 1, 1, 1, 1, 1, 1, 1, 1), 1, 2, 4, 8, 16, 32, 64, 128);
        });
        edge(23, does, "the most there can be: 70", () -> {
            WonTogether x = Samples.voters(4, 1, 1, 1, 1, 1, 1, 1, 1);
            int[] sets = new int[70];
            int found = 0;
            for (int set = 0; set < 256; set++) {
                if (Integer.bitCount(set) == 4) {
                    sets[found] = set;
                    found++;
                }
            }
            minimalIs(x, sets);
        });
        edge(23, "NONE: not so many.", "far beyond the last", () -> {
            for (int what : new int[] {3, 4, 255, 256, 1 << 30}) {
                refused("minimal(" + what + ")", Samples::some, x -> x.minimal(what), NONE);
            }
        });
        for (int what : new int[] {-2, -3, -4}) {
            edge(23, "BAD.", "what = " + what, () ->
                    refused("minimal(" + what + ")", Samples::some, x -> x.minimal(what), BAD));
        }
    }

    private static void powerIs(WonTogether x, int voter, int... due) {
        for (int what = 0; what < 4; what++) {
            is("power(" + voter + ", " + what + ")", x.power(voter, what), due[what]);
        }
    }

    private static void promise24() {
        String does = "TURNS (0), PIVOTS (1), whether it BLOCKS (2), whether it is in no LEAST one (3).";
        edge(24, TURNS, "none is a set without it", () -> powerIs(Samples.voters(1, 1), 0, 1, 1, 1, 0));
        edge(24, TURNS, "the most there can be, and none", () -> {
            WonTogether x = Samples.voters(50, 0, 0, 0, 0, 0, 0, 0, 50);
            powerIs(x, 7, 128, 40320, 1, 0);
            powerIs(x, 0, 0, 0, 0, 1);
        });
        edge(24, PIVOTS, "all orders of 1 to 8 VOTERS", () -> {
            int[] orders = {1, 1, 2, 6, 24, 120, 720, 5040};
            for (int n = 1; n <= 8; n++) {
                WonTogether x = none();
                for (int k = 0; k < n; k++) {
                    x.voter(1);
                }
                x.quota(n);
                is("PIVOTS of the last of " + n, x.power(n - 1, 1), orders[n - 1]);
                x.weight(0, 50);
                x.quota(50);
                is("PIVOTS of the only one of " + n, x.power(0, 1), n * orders[n - 1]);
            }
        });
        edge(24, BLOCKS, "all together must WIN", () -> {
            WonTogether x = Samples.voters(7, 4, 3);
            powerIs(x, 0, 1, 1, 1, 0);
            x.quota(8);
            powerIs(x, 0, 0, 0, 0, 1);
        });
        edge(24, BLOCKS, "just the QUOTA without it, and one less", () -> {
            WonTogether x = Samples.voters(3, 4, 3);
            is("3 of 3 without it", x.power(0, 2), 0);
            x.quota(4);
            is("3 of 4 without it", x.power(0, 2), 1);
            is("4 of 4 without it", x.power(1, 2), 0);
        });
        edge(24, does, "in no LEAST one, though of some WEIGHT", () -> {
            WonTogether x = Samples.voters(9, 4, 3, 2, 1);
            powerIs(x, 3, 0, 0, 0, 1);
            powerIs(x, 2, 2, 8, 1, 0);
            x.quota(10);
            powerIs(x, 3, 1, 6, 1, 0);
        });
        for (int what : new int[] {-1, 4, 5}) {
            edge(24, "BAD.", "what = " + what, () ->
                    refused("power(0, " + what + ")", Samples::some, x -> x.power(0, what), BAD));
        }
        for (int voter : new int[] {-1, 4, 8}) {
            edge(24, "BAD.", voter + " is no VOTER of 4", () -> {
                for (int what : new int[] {0, 1, 2, 3}) {
                    refused("power(" + voter + ", " + what + ")", Samples::some, x -> x.power(voter, what), BAD);
                }
            });
        }
        edge(24, "BAD.", "no VOTERS", () -> {
            for (int what : new int[] {0, 1, 2, 3}) {
                kept("power(0, " + what + ")", noneTold(), o -> o.power(0, what), BAD);
            }
        });
        edge(24, "BAD.", "the last of 8 VOTERS, and one more", () -> {
            is("power(7, 2)", Samples.full().power(7, 2), 1);
            refused("power(8, 2)", Samples::full, x -> x.power(8, 2), BAD);
        });
    }

    private static void promise25() {
        String does = "DEEGAN is THE FRACTION: 1.";
        edge(25, DEEGAN, "sets of 1 to 8", () -> {
            for (int n = 1; n <= 8; n++) {
                WonTogether x = none();
                for (int k = 0; k < n; k++) {
                    x.voter(1);
                }
                x.quota(n);
                told("all of " + n, x, x.deegan(n - 1), 1, n);
                x.quota(1);
                told("each of " + n, x, x.deegan(0), 1, n);
            }
        });
        edge(25, DEEGAN, "one alone, and one in no LEAST set", () -> {
            WonTogether x = Samples.voters(5, 5, 4);
            told("deegan(0)", x, x.deegan(0), 1, 1);
            told("deegan(1)", x, x.deegan(1), 0, 1);
        });
        edge(25, DEEGAN, "the most LEAST sets there can be", () -> {
            WonTogether x = Samples.voters(4, 1, 1, 1, 1, 1, 1, 1, 1);
            told("deegan(7)", x, x.deegan(7), 1, 8);
        });
        edge(25, DEEGAN, "sets of 2 and of 7", () -> {
            WonTogether x = Samples.voters(7, 6, 1, 1, 1, 1, 1, 1, 1);
            // Seven sets of 2 with the first, and one of 7 without it.
            told("deegan(0)", x, x.deegan(0), 7, 16);
            told("deegan(1)", x, x.deegan(1), 9, 112);
        });
        edge(25, "0: there is no LEAST one.", "THE FRACTION stays", () -> {
            refused("deegan(0)", VotesEdges::losing, x -> x.deegan(0), 0);
            refused("deegan(3)", VotesEdges::losing, x -> x.deegan(3), 0);
        });
        for (int voter : new int[] {-1, 4, 8}) {
            edge(25, "BAD.", voter + " is no VOTER of 4", () -> {
                refused("deegan(" + voter + ")", Samples::some, x -> x.deegan(voter), BAD);
                refused("deegan(" + voter + ") of losers", VotesEdges::losing, x -> x.deegan(voter), BAD);
            });
        }
        edge(25, "BAD.", "no VOTERS", () -> refused("deegan(0)", VotesEdges::noneTold, x -> x.deegan(0), BAD));
        edge(25, does, "the last of 8 VOTERS, and one more", () -> {
            is("deegan(7)", Samples.full().deegan(7), 1);
            refused("deegan(8)", Samples::full, x -> x.deegan(8), BAD);
        });
    }

    private static void sameIs(WonTogether x, int quota, int... row) {
        is("same(-1)", x.same(NONE), quota);
        for (int voter = 0; voter < row.length; voter++) {
            is("same(" + voter + ")", x.same(voter), row[voter]);
        }
        kept("same(" + row.length + ")", x, o -> o.same(row.length), BAD);
    }

    private static void promise26() {
        String does = "SAME: QUOTA (what = NONE), the number of VOTER what.";
        String no = "BAD; NO: above 5 VOTERS, or none.";
        edge(26, SAME, "the least QUOTA is 1, though no set WINS", () -> {
            sameIs(Samples.voters(400, 50, 50, 50, 50, 50), 1, 0, 0, 0, 0, 0);
            sameIs(Samples.voters(1, 0), 1, 0);
            sameIs(Samples.voters(1, 1), 1, 1);
        });
        edge(26, SAME, "the least sum, then the least QUOTA", () -> {
            sameIs(Samples.voters(50, 50, 49, 1), 2, 2, 1, 1);
            sameIs(Samples.voters(51, 50, 49, 1), 3, 2, 1, 1);
            sameIs(Samples.voters(100, 50, 49, 1), 3, 1, 1, 1);
            sameIs(Samples.voters(99, 50, 49, 1), 2, 1, 1, 0);
        });
        edge(26, SAME, "each VOTER at its own place of the row", () -> {
            sameIs(Samples.voters(6, 4, 3, 2, 1), 5, 3, 2, 2, 1);
            sameIs(Samples.voters(6, 1, 2, 3, 4), 5, 1, 2, 2, 3);
            sameIs(Samples.voters(6, 2, 4, 1, 3), 5, 2, 3, 1, 2);
            sameIs(Samples.voters(6, 5, 4, 2, 2), 3, 2, 2, 1, 1);
        });
        edge(26, SAME, "1 to 5 VOTERS", () -> {
            WonTogether x = none();
            int[] row = new int[0];
            for (int n = 1; n <= 5; n++) {
                x.voter(50);
                x.quota(50 * n);
                row = new int[n];
                java.util.Arrays.fill(row, 1);
                sameIs(x, n, row);
            }
        });
        edge(26, SAME, "a sum of 12 is told", () -> {
            sameIs(Samples.voters(6, 3, 3, 2, 2, 2), 6, 3, 3, 2, 2, 2);
            sameIs(Samples.voters(42, 21, 21, 14, 14, 14), 6, 3, 3, 2, 2, 2);
        });
        edge(26, "-5: none up to 12.", "a sum of 13 is not told", () -> {
            sameIs(Samples.voters(6, 4, 3, 3, 2, 1), -5, -5, -5, -5, -5, -5);
            refused("same(-1)", () -> Samples.voters(6, 4, 3, 3, 2, 1), x -> x.same(NONE), -5);
        });
        edge(26, no, "no VOTERS", () -> {
            refused("same(-1)", VotesEdges::noneTold, x -> x.same(NONE), NO);
            refused("same(0)", VotesEdges::noneTold, x -> x.same(0), BAD);
            refused("same(-2)", VotesEdges::noneTold, x -> x.same(-2), BAD);
        });
        edge(26, no, "5 VOTERS are not above 5, 6 are, 8 too", () -> {
            is("same(4) of 5", withVoters(5).same(4), 1);
            for (int many : new int[] {6, 8}) {
                for (int what : new int[] {NONE, 0, many - 1}) {
                    refused("same(" + what + ") of " + many, () -> withVoters(many), x -> x.same(what), NO);
                }
            }
        });
        edge(26, REFUSED, "BAD comes ahead of NO", () -> {
            refused("same(6) of 6", () -> withVoters(6), x -> x.same(6), BAD);
            refused("same(-2) of 6", () -> withVoters(6), x -> x.same(-2), BAD);
            refused("same(8) of 8", () -> withVoters(8), x -> x.same(8), BAD);
        });
        for (int what : new int[] {-2, -3, 4, 5}) {
            edge(26, no, "what = " + what + " of 4 VOTERS", () ->
                    refused("same(" + what + ")", Samples::some, x -> x.same(what), BAD));
        }
        edge(26, does, "one more VOTER is told at once", () -> {
            WonTogether x = Samples.voters(2, 1, 1);
            sameIs(x, 2, 1, 1);
            x.voter(2);
            sameIs(x, 2, 1, 1, 2);
        });
    }
}
