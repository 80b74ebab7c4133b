import java.util.function.Supplier;
import java.util.function.ToLongFunction;

/** Promises 30 to 35, sentence by sentence: a tree of ways. */
final class TreesEdges extends Edge {
    private static final String TREE = "A TREE: place 0 the ROOT; places 1 .. 9, as they come, hang on an earlier one by"
            + " a way that costs (0 .. 1000).";
    private static final String USERS = "USERS 0 .. 7, as they come, are at places.";
    private static final String ALONE = "ALONE: what a set of USERS costs: all ways from them to the ROOT, each once.";
    private static final String PART = "PART of a USER: each way's cost by how many USERS have it on theirs, together.";
    private static final String PAYS = "TOLD PAYS of USERS (0 .. 10000; 0 at first)";
    private static final String HELD = "HELD BY: the first set as a number that pays more than ALONE; none.";
    private static final String REFUSED = "Refused, changing nothing, the first of: BAD -2 a number is not as told; NO"
            + " -3 as told; FULL -4.";

    private TreesEdges() {
    }

    static void run() {
        promise30();
        promise31();
        promise32();
        promise33();
        promise34();
        promise35();
    }

    private static void refused(String call, Supplier<WonTogether> made, ToLongFunction<WonTogether> asked, long want) {
        unchanged(call, Everything.Part.TREE, made, asked, want);
    }

    /** The ROOT alone and no USERS, with a fraction told before. */
    private static WonTogether noneTold() {
        WonTogether x = Samples.game(1, -7);
        x.value(0, 0);
        return x;
    }

    /** All places, but fewer USERS than there may be, with a fraction told before. */
    private static WonTogether allPlaces() {
        WonTogether x = Samples.some();
        for (int place = 5; place < 10; place++) {
            x.place(place - 1, 3);
        }
        return x;
    }

    private static void promise30() {
        for (int cost : new int[] {0, 1, 999, 1000}) {
            edge(30, TREE, "a cost of " + cost + " is within 0 .. 1000", () -> {
                WonTogether x = new WonTogether();
                is("place(0, " + cost + ")", x.place(0, cost), 1);
                x.user(1);
                is("alone(1)", x.alone(1), cost);
            });
        }
        for (int cost : new int[] {-2, -1, 1001, 1002}) {
            edge(30, "BAD;", "a cost of " + cost + " is too " + (cost < 0 ? "small" : "large"), () -> {
                refused("place(0, " + cost + ")", Samples::some, x -> x.place(0, cost), BAD);
                refused("the first place(0, " + cost + ")", TreesEdges::noneTold, x -> x.place(0, cost), BAD);
            });
        }
        edge(30, TREE, "on the ROOT, on the last one, on none that is not yet there", () -> {
            WonTogether x = new WonTogether();
            for (int k : new int[] {1, 2, 3, 4, 5, 6, 7, 8, 9}) {
                kept("place(" + k + ", 1)", x, o -> o.place(k, 1), BAD);
                kept("place(-1, 1)", x, o -> o.place(-1, 1), BAD);
                is("place(" + (k - 1) + ", " + k + ")", x.place(k - 1, k), k);
                is("count(3)", x.count(3), k + 1);
            }
            x.user(9);
            is("alone(1)", x.alone(1), 45);
        });
        edge(30, TREE, "all nine on the ROOT", () -> {
            WonTogether x = new WonTogether();
            for (int k = 1; k <= 9; k++) {
                is("place(0, " + k + ")", x.place(0, k), k);
            }
            x.user(9);
            x.user(1);
            is("alone(1)", x.alone(1), 9);
            is("alone(3)", x.alone(3), 10);
        });
        for (int on : new int[] {-1, 5, 6, 10}) {
            edge(30, "BAD;", "no place " + on + " among the ROOT and 4", () ->
                    refused("place(" + on + ", 1)", Samples::some, x -> x.place(on, 1), BAD));
        }
        edge(30, "FULL: 9 besides the ROOT.", "a tenth", () -> {
            refused("place(0, 0)", TreesEdges::allPlaces, x -> x.place(0, 0), FULL);
            refused("place(9, 1000)", TreesEdges::allPlaces, x -> x.place(9, 1000), FULL);
            refused("place(9, 1)", Samples::full, x -> x.place(9, 1), FULL);
        });
        edge(30, "FULL: 9 besides the ROOT.", "8 are not FULL", () ->
                is("place(8, 1)", Samples.chain(1, 1, 1, 1, 1, 1, 1, 1).place(8, 1), 9));
        edge(30, REFUSED, "a tenth on no place, or of a wrong cost, is BAD", () -> {
            refused("place(10, 1)", TreesEdges::allPlaces, x -> x.place(10, 1), BAD);
            refused("place(-1, 1)", TreesEdges::allPlaces, x -> x.place(-1, 1), BAD);
            refused("place(0, 1001)", TreesEdges::allPlaces, x -> x.place(0, 1001), BAD);
            refused("place(0, -1)", TreesEdges::allPlaces, x -> x.place(0, -1), BAD);
        });
        edge(30, "A place: its number.", "USERS that are there stay where they are", () -> {
            WonTogether x = Samples.chain(10);
            x.user(1);
            x.user(0);
            is("place(1, 5)", x.place(1, 5), 2);
            is("alone(1)", x.alone(1), 10);
            is("alone(2)", x.alone(2), 0);
        });
    }

    private static void promise31() {
        edge(31, USERS, "at the ROOT and at the last place", () -> {
            WonTogether x = Samples.chain(1, 2, 4);
            is("user(0)", x.user(0), 0);
            is("user(3)", x.user(3), 1);
            is("alone(1)", x.alone(1), 0);
            is("alone(2)", x.alone(2), 7);
        });
        edge(31, "A USER: its number.", "0 to 7, as they come", () -> {
            WonTogether x = Samples.chain(1, 1, 1, 1, 1, 1, 1);
            for (int k = 0; k < 8; k++) {
                is("user(" + k + ")", x.user(k), k);
                is("count(4)", x.count(4), k + 1);
                is("alone of it", x.alone(1 << k), k);
            }
        });
        for (int place : new int[] {-1, 5, 6, 9}) {
            edge(31, "BAD;", "no place " + place + " among the ROOT and 4", () ->
                    refused("user(" + place + ")", Samples::some, x -> x.user(place), BAD));
        }
        edge(31, "BAD;", "the ROOT alone is there", () -> {
            refused("user(1)", TreesEdges::noneTold, x -> x.user(1), BAD);
            is("user(0)", noneTold().user(0), 0);
        });
        edge(31, "BAD;", "the last of all places, and one more", () -> {
            is("user(9)", allPlaces().user(9), 4);
            refused("user(10)", TreesEdges::allPlaces, x -> x.user(10), BAD);
        });
        edge(31, "FULL: 8.", "a ninth USER", () -> {
            refused("user(0)", Samples::full, x -> x.user(0), FULL);
            refused("user(9)", Samples::full, x -> x.user(9), FULL);
        });
        edge(31, "FULL: 8.", "7 are not FULL", () -> {
            WonTogether x = new WonTogether();
            for (int k = 0; k < 7; k++) {
                x.user(0);
            }
            is("user(0)", x.user(0), 7);
            kept("user(0)", x, o -> o.user(0), FULL);
        });
        edge(31, REFUSED, "a ninth USER at no place is BAD", () -> {
            refused("user(10)", Samples::full, x -> x.user(10), BAD);
            refused("user(-1)", Samples::full, x -> x.user(-1), BAD);
        });
    }

    private static void promise32() {
        edge(32, "(0 of none.)", "without USERS, and with some", () -> {
            is("alone(0)", new WonTogether().alone(0), 0);
            is("alone(0)", Samples.some().alone(0), 0);
            is("alone(0)", Samples.full().alone(0), 0);
        });
        edge(32, ALONE, "each way once, for each set of 8 USERS", () -> {
            // Costs are single bits, so that a sum tells its ways.
            WonTogether x = Samples.chain(1, 2, 4, 8);
            x.place(0, 16);
            x.place(5, 32);
            x.place(5, 64);
            x.place(2, 128);
            x.place(8, 256);
            int[] places = {0, 4, 3, 6, 7, 9, 8, 4};
            int[] ways = {0, 15, 7, 48, 80, 387, 131, 15};
            for (int place : places) {
                x.user(place);
            }
            for (int set = 0; set < 256; set++) {
                int due = 0;
                for (int user = 0; user < 8; user++) {
                    due |= (set >> user & 1) == 1 ? ways[user] : 0;
                }
                is("alone(" + set + ")", x.alone(set), due);
            }
        });
        edge(32, "ALONE.", "the most there can be", () -> {
            WonTogether x = Samples.chain(1000, 1000, 1000, 1000, 1000, 1000, 1000, 1000, 1000);
            for (int k = 0; k < 8; k++) {
                x.user(9);
            }
            is("alone(255)", x.alone(255), 9000);
            is("alone(128)", x.alone(128), 9000);
        });
        edge(32, "ALONE.", "asking changes nothing", () -> refused("alone(15)", Samples::some, x -> x.alone(15), 42));
        for (int set : new int[] {-1, 16, 17, 32}) {
            edge(32, "BAD.", set + " is no set of 4 USERS", () ->
                    refused("alone(" + set + ")", Samples::some, x -> x.alone(set), BAD));
        }
        edge(32, "BAD.", "all of 0 to 8 USERS, and one USER more", () -> {
            WonTogether x = Samples.chain(3);
            for (int n : NONE_TO_EIGHT) {
                is("all of " + n, x.alone((1 << n) - 1), n == 0 ? 0 : 3);
                kept("one more than " + n, x, o -> o.alone(1 << n), BAD);
                x.user(1);
            }
        });
    }

    private static void promise33() {
        String does = "PART is THE FRACTION: 1.";
        edge(33, PART, "one way of 1 to 8 USERS", () -> {
            WonTogether x = Samples.chain(1);
            for (int n = 1; n <= 8; n++) {
                x.user(1);
                told("paid(0) of " + n, x, x.paid(0), 1, n);
                told("paid(" + (n - 1) + ") of " + n, x, x.paid(n - 1), 1, n);
            }
        });
        edge(33, PART, "ways of 8, 7, .. 1 USERS, together", () -> {
            WonTogether x = Samples.chain(1, 1, 1, 1, 1, 1, 1, 1);
            for (int k = 1; k <= 8; k++) {
                x.user(k);
            }
            told("paid(7)", x, x.paid(7), 761, 280);
            told("paid(6)", x, x.paid(6), 481, 280);
            told("paid(0)", x, x.paid(0), 1, 8);
        });
        edge(33, PART, "the most there can be, and nothing", () -> {
            WonTogether x = Samples.chain(1000, 1000, 1000, 1000, 1000, 1000, 1000, 1000, 1000);
            x.user(9);
            x.user(0);
            told("paid(0)", x, x.paid(0), 9000, 1);
            told("paid(1)", x, x.paid(1), 0, 1);
        });
        edge(33, PART, "USERS elsewhere do not count", () -> {
            WonTogether x = Samples.some();
            told("paid(0)", x, x.paid(0), 20, 1);
            told("paid(1)", x, x.paid(1), 31, 3);
            told("paid(2)", x, x.paid(2), 25, 3);
            told("paid(3)", x, x.paid(3), 10, 3);
        });
        edge(33, does, "nothing but THE FRACTION is changed", () -> {
            WonTogether x = Samples.some();
            x.paid(1);
            x.value(2, 1);
            is("digest", x.digest(), Samples.some().digest());
        });
        for (int user : new int[] {-1, 4, 8}) {
            edge(33, "BAD.", user + " is no USER of 4", () ->
                    refused("paid(" + user + ")", Samples::some, x -> x.paid(user), BAD));
        }
        edge(33, "BAD.", "no USERS", () -> refused("paid(0)", TreesEdges::noneTold, x -> x.paid(0), BAD));
        edge(33, "BAD.", "the last of 8 USERS, and one more", () -> {
            is("paid(7)", Samples.full().paid(7), 1);
            refused("paid(8)", Samples::full, x -> x.paid(8), BAD);
        });
    }

    private static void promise34() {
        for (int v : new int[] {0, 1, 9999, 10000}) {
            edge(34, PAYS, v + " is within 0 .. 10000", () -> {
                WonTogether x = Samples.some();
                is("pay(3, " + v + ")", x.pay(3, v), 6);
                is("what it was", x.pay(3, 2), v);
            });
        }
        for (int v : new int[] {-2, -1, 10001, 10002}) {
            edge(34, "BAD.", v + " is too " + (v < 0 ? "small" : "large"), () ->
                    refused("pay(0, " + v + ")", Samples::some, x -> x.pay(0, v), BAD));
        }
        edge(34, PAYS, "0 at first, of each of 8", () -> {
            WonTogether x = new WonTogether();
            for (int k = 0; k < 8; k++) {
                x.user(0);
                is("pay(" + k + ", 5)", x.pay(k, 5 + k), 0);
            }
            for (int k = 0; k < 8; k++) {
                is("pay(" + k + ", 0)", x.pay(k, 0), 5 + k);
            }
        });
        for (int user : new int[] {-1, 4, 8}) {
            edge(34, "BAD.", user + " is no USER of 4", () ->
                    refused("pay(" + user + ", 1)", Samples::some, x -> x.pay(user, 1), BAD));
        }
        edge(34, "BAD.", "no USERS", () -> refused("pay(0, 1)", TreesEdges::noneTold, x -> x.pay(0, 1), BAD));
        edge(34, "A TOLD PAY: what it was.", "the last of 8 USERS, and one more", () -> {
            is("pay(7, 1)", Samples.full().pay(7, 1), 9993);
            refused("pay(8, 1)", Samples::full, x -> x.pay(8, 1), BAD);
        });
    }

    private static WonTogether paying(WonTogether x, int... pays) {
        for (int user = 0; user < pays.length; user++) {
            x.user(1);
            x.pay(user, pays[user]);
        }
        return x;
    }

    private static void promise35() {
        edge(35, "NONE.", "no USERS, and nothing paid", () -> {
            is("held()", new WonTogether().held(), NONE);
            is("held()", paying(Samples.chain(0), 0, 0, 0).held(), NONE);
        });
        edge(35, HELD, "just what it costs is not more, one more is", () -> {
            is("10 of 10", paying(Samples.chain(10), 10).held(), NONE);
            is("11 of 10", paying(Samples.chain(10), 11).held(), 1);
            is("10 of 10 by two", paying(Samples.chain(10), 4, 6).held(), NONE);
            is("11 of 10 by two", paying(Samples.chain(10), 4, 7).held(), 3);
            is("1 of 0", paying(Samples.chain(0), 0, 1).held(), 2);
        });
        edge(35, HELD, "the first set as a number", () -> {
            is("the last alone", paying(Samples.chain(9), 0, 0, 0, 0, 0, 0, 0, 10).held(), 128);
            is("all of them", paying(Samples.chain(7), 1, 1, 1, 1, 1, 1, 1, 1).held(), 255);
            is("the first four", paying(Samples.chain(3), 1, 1, 1, 1, 1, 1, 1, 1).held(), 15);
            is("0 and 2 ahead of 3", paying(Samples.chain(9), 5, 1, 5, 10).held(), 5);
        });
        edge(35, HELD, "the most they can pay", () -> {
            WonTogether x = Samples.chain(1000, 1000, 1000, 1000, 1000, 1000, 1000, 1000, 1000);
            for (int k = 0; k < 8; k++) {
                x.user(9);
                x.pay(k, k < 7 ? 1125 : 10000);
            }
            is("the last pays 10000 of 9000", x.held(), 128);
            x.pay(7, 1125);
            is("9000 of 9000", x.held(), NONE);
            x.pay(7, 1126);
            is("9001 of 9000", x.held(), 255);
        });
        edge(35, "HELD BY.", "asking changes nothing", () -> refused("held()", Samples::some, x -> x.held(), NONE));
    }
}
