import java.util.function.ToLongFunction;

/** Promises 10 to 18, sentence by sentence: shares. */
final class SharesEdges extends Edge {
    private static final String LEAST_PAY = "LEAST PAY: the least that all together can have if no set has a COMPLAINT"
            + " above 0 (the set of all neither; it need not be WHOLE).";
    private static final String STRAIN = "STRAIN: the least number above which no COMPLAINT of a set that is neither"
            + " none nor all need be, of WHOLE ones (none for one SIDE).";
    private static final String CORE = "CORE: WHOLE SHARES with no COMPLAINT above 0;";
    private static final String ENDS = "its ENDS for a SIDE: the least, the greatest it has there.";
    private static final String SHARE = "A SHARE gives each SIDE a number (a fraction); of a set: together;";
    private static final String CALM = "THE CALM SHARE: of WHOLE ones that by which COMPLAINTS of all sets but none and"
            + " all, put from the greatest on, are the first as a row (there is just one).";
    private static final String TOLD_SHARES = "TOLD SHARES 0, 1: whole numbers (-10000 .. 10000; 0 at first).";
    private static final String COMPLAINT = "COMPLAINT of a set: WORTH less its SHARE.";
    private static final String SURPLUS = "SURPLUS of i over k: the greatest COMPLAINT of sets with i and without k.";
    private static final String WHOLE = "WHOLE ones: all SIDES have just the WORTH of all.";
    private static final String EVEN = "EVEN: it is WHOLE, and each two SIDES have the same SURPLUS over each other.";
    private static final String BETTER = "The first is BETTER than the second by a set, if each of its SIDES has more"
            + " and all of them together no more than its WORTH: the first such set as a number.";

    private SharesEdges() {
    }

    static void run() {
        promise10();
        promise11();
        promise12();
        promise13();
        promise14();
        promise15();
        promise16();
        promise17();
        promise18();
    }

    /** A call on the object with something of everything, by which nothing may change. */
    private static void refused(String call, ToLongFunction<WonTogether> asked, long want) {
        unchanged(call, Everything.Part.SIDES, Samples::some, asked, want);
    }

    private static WonTogether one(int worth) {
        return Samples.game(1, worth);
    }

    /** One SIDE alone, with a fraction told before. */
    private static WonTogether oneTold() {
        WonTogether x = Samples.some();
        x.sides(1);
        x.worth(1, 7);
        return x;
    }

    /** Pairs are worth too much for all of three, with a fraction told before. */
    private static WonTogether coreless() {
        WonTogether x = Samples.some();
        x.worth(7, 7);
        x.worth(6, 9);
        return x;
    }

    /** The first bound fixes what two pairs have, the second and the third their halves. */
    private static WonTogether threeBounds() {
        return Samples.game(4, 4, 0, 10, 2, 0, 0, 0, 0, 0, 0, 0, 10, 0, 0, 20);
    }

    private static void promise10() {
        String does = "LEAST PAY (0), STRAIN (1) is THE FRACTION: 1.";
        edge(10, LEAST_PAY, "one SIDE alone has its WORTH", () -> {
            for (int worth : new int[] {-1000, -999, 0, 999, 1000}) {
                WonTogether x = one(worth);
                told("least(0) of " + worth, x, x.least(0), worth, 1);
            }
        });
        edge(10, LEAST_PAY, "the set of all has no COMPLAINT either", () -> {
            WonTogether x = Samples.game(2, -3, -4, -7);
            told("as much as apart", x, x.least(0), -7, 1);
            x.worth(3, -6);
            told("one more", x, x.least(0), -6, 1);
        });
        edge(10, LEAST_PAY, "it need not be WHOLE", () -> {
            WonTogether x = Samples.game(2, 3, 4, 6);
            told("least(0)", x, x.least(0), 7, 1);
            x.worth(3, -1000);
            told("least(0)", x, x.least(0), 7, 1);
        });
        edge(10, LEAST_PAY, "the greatest and the least there can be", () -> {
            WonTogether x = Samples.alike(4, 1000, -1000, -1000, -1000);
            told("four times 1000", x, x.least(0), 4000, 1);
            x = Samples.alike(4, -1000, -1000, -1000, -1000);
            told("all at the least", x, x.least(0), -1000, 1);
            x.worth(15, 1000);
            told("all alone at the greatest", x, x.least(0), 1000, 1);
        });
        edge(10, LEAST_PAY, "a fraction", () -> {
            WonTogether x = Samples.alike(3, 0, 1, 1);
            told("halves", x, x.least(0), 3, 2);
            x = Samples.alike(4, -1000, -1000, 1000, -1000);
            told("thirds", x, x.least(0), 4000, 3);
        });
        edge(10, STRAIN, "one set of each two SIDES, above and below 0", () -> {
            WonTogether x = Samples.game(2, 3, 4, 6);
            told("one too few", x, x.least(1), 1, 2);
            x.worth(3, 7);
            told("just enough", x, x.least(1), 0, 1);
            x.worth(3, 8);
            told("one too many", x, x.least(1), -1, 2);
        });
        edge(10, STRAIN, "the greatest and the least there can be", () -> {
            WonTogether x = Samples.alike(4, 1000, 1000, 1000, -1000);
            told("all sets at the greatest", x, x.least(1), 1750, 1);
            x = Samples.alike(4, -1000, -1000, -1000, 1000);
            told("all sets at the least", x, x.least(1), -1250, 1);
            x = Samples.alike(2, -1000, 1000);
            told("two at the least", x, x.least(1), -1500, 1);
            x = Samples.alike(2, 1000, -1000);
            told("two at the greatest", x, x.least(1), 1500, 1);
        });
        edge(10, STRAIN, "the set of all does not count, though it is worth most", () -> {
            WonTogether x = Samples.alike(3, 0, 0, 999);
            told("least(1)", x, x.least(1), -333, 1);
        });
        edge(10, STRAIN, "the greatest of the CALM SHARE's COMPLAINTS, not the second or the last", () -> {
            WonTogether x = threeBounds();
            told("least(1)", x, x.least(1), 0, 1);
            told("calm(3)", x, x.calm(3), 4, 1);
            told("least(1)", x, x.least(1), 0, 1);
        });
        edge(10, "0: STRAIN of one SIDE.", "THE FRACTION stays", () -> {
            unchanged("least(1)", Everything.Part.SIDES, SharesEdges::oneTold, x -> x.least(1), 0);
            is("least(1) of a new one", one(-1000).least(1), 0);
        });
        edge(10, "0: STRAIN of one SIDE.", "two SIDES have one", () ->
                is("least(1)", Samples.game(2).least(1), 1));
        for (int what : new int[] {-1, 2, -3}) {
            edge(10, "BAD.", "what = " + what, () -> {
                refused("least(" + what + ")", x -> x.least(what), BAD);
                unchanged("least(" + what + ")", Everything.Part.SIDES, SharesEdges::oneTold,
                        x -> x.least(what), BAD);
            });
        }
        edge(10, does, "asked by turns", () -> {
            WonTogether x = Samples.alike(3, 0, 1, 1);
            told("least(0)", x, x.least(0), 3, 2);
            told("least(1)", x, x.least(1), 1, 3);
            told("least(0)", x, x.least(0), 3, 2);
            told("least(1)", x, x.least(1), 1, 3);
        });
    }

    private static void promise11() {
        String does = "Whether there is a CORE: 1, 0.";
        edge(11, does, "one SIDE alone", () -> {
            is("core()", one(-1000).core(), 1);
            is("core()", one(1000).core(), 1);
        });
        edge(11, CORE, "a COMPLAINT of 0 is not above 0", () -> {
            WonTogether two = Samples.game(2, 3, 4, 7);
            is("just enough for two", two.core(), 1);
            two.worth(3, 6);
            is("one too few for two", two.core(), 0);
            WonTogether three = Samples.alike(3, 0, 2, 3);
            is("just enough for pairs of three", three.core(), 1);
            three.worth(7, 2);
            is("one too few for pairs of three", three.core(), 0);
            WonTogether four = Samples.alike(4, 0, 0, 3, 4);
            is("just enough for threes of four", four.core(), 1);
            four.worth(15, 3);
            is("one too few for threes of four", four.core(), 0);
        });
        edge(11, CORE, "they are WHOLE: all cannot have more than their WORTH", () -> {
            is("core()", Samples.alike(2, 1000, -1000).core(), 0);
            is("core()", Samples.alike(4, 1000, -1000, -1000, -1000).core(), 0);
            is("core()", Samples.alike(4, -1000, -1000, -1000, -1000).core(), 1);
        });
        edge(11, does, "asking changes nothing", () -> {
            unchanged("core()", Everything.Part.SIDES, Samples::some, x -> x.core(), 1);
            unchanged("core()", Everything.Part.SIDES, SharesEdges::coreless, x -> x.core(), 0);
        });
    }

    private static void endsAre(WonTogether x, int side, long least, long greatest) {
        told("end(" + side + ", 0)", x, x.end(side, 0), least, 1);
        told("end(" + side + ", 1)", x, x.end(side, 1), greatest, 1);
    }

    private static void promise12() {
        String does = "ENDS of a SIDE: the least (0), the greatest (1) is THE FRACTION: 1.";
        edge(12, does, "one SIDE alone has its WORTH at both", () -> {
            endsAre(one(-1000), 0, -1000, -1000);
            endsAre(one(1000), 0, 1000, 1000);
        });
        edge(12, ENDS, "one share alone", () -> {
            WonTogether x = Samples.alike(3, 0, 2, 3);
            for (int side = 0; side < 3; side++) {
                endsAre(x, side, 1, 1);
            }
        });
        edge(12, ENDS, "from the least WORTH to the greatest", () -> {
            endsAre(Samples.game(2, -1000, -1000, 1000), 0, -1000, 2000);
            WonTogether four = Samples.alike(4, -1000, -1000, -1000, 1000);
            for (int side = 0; side < 4; side++) {
                endsAre(four, side, -1000, 2000);
            }
        });
        edge(12, ENDS, "a fraction", () -> {
            WonTogether x = Samples.game(4, 0, 0, 1, 0, 1, 0, 0, 0, 3, 0, 0, 0, 0, 0, 4);
            told("end(0, 0)", x, x.end(0, 0), 1, 2);
        });
        edge(12, "0: no CORE.", "THE FRACTION stays", () -> {
            unchanged("end(0, 0)", Everything.Part.SIDES, SharesEdges::coreless, x -> x.end(0, 0), 0);
            unchanged("end(2, 1)", Everything.Part.SIDES, SharesEdges::coreless, x -> x.end(2, 1), 0);
        });
        edge(12, "0: no CORE.", "one more and there is one", () -> {
            WonTogether x = Samples.game(2, 3, 4, 6);
            is("end(1, 1)", x.end(1, 1), 0);
            x.worth(3, 7);
            endsAre(x, 1, 4, 4);
        });
        for (int side : new int[] {-1, 3, 4}) {
            edge(12, "BAD.", side + " is no SIDE of 3", () -> {
                refused("end(" + side + ", 0)", x -> x.end(side, 0), BAD);
                refused("end(" + side + ", 1)", x -> x.end(side, 1), BAD);
            });
            edge(12, "BAD.", side + " is no SIDE of 3, without a CORE too", () ->
                    unchanged("end(" + side + ", 0)", Everything.Part.SIDES, SharesEdges::coreless,
                            x -> x.end(side, 0), BAD));
        }
        for (int what : new int[] {-1, 2}) {
            edge(12, "BAD.", "what = " + what, () -> {
                refused("end(0, " + what + ")", x -> x.end(0, what), BAD);
                unchanged("end(0, " + what + ")", Everything.Part.SIDES, SharesEdges::coreless,
                        x -> x.end(0, what), BAD);
            });
        }
        edge(12, "BAD.", "the last SIDE of 1 to 4, and one more", () -> {
            for (int n : ONE_TO_FOUR) {
                WonTogether x = Samples.game(n);
                is("end(" + (n - 1) + ", 0) of " + n, x.end(n - 1, 0), 1);
                kept("end(" + n + ", 0) of " + n, x, o -> o.end(n, 0), BAD);
            }
        });
    }

    /** What sides have by the calm share, all by the same number below, not yet in lowest terms. */
    private static void calmIs(WonTogether x, long below, long... aboves) {
        for (int side = 0; side < aboves.length; side++) {
            Ratio due = new Ratio(aboves[side], below);
            told("calm(" + side + ")", x, x.calm(side), due.above, due.below);
        }
    }

    private static void promise13() {
        String does = "THE CALM SHARE of a SIDE is THE FRACTION: 1.";
        edge(13, does, "one SIDE alone has its WORTH", () -> {
            calmIs(one(-1000), 1, -1000);
            calmIs(one(1000), 1, 1000);
        });
        edge(13, CALM, "two SIDES: what is more goes halves", () -> {
            calmIs(Samples.game(2, 1000, -1000, 1000), 1, 1500, -500);
            calmIs(Samples.game(2, -1000, 1000, -1000), 1, -1500, 500);
            calmIs(Samples.game(2, 0, 0, 1), 2, 1, 1);
        });
        edge(13, CALM, "like SIDES have as much, at the ends of WORTHS too", () -> {
            calmIs(Samples.alike(3, 1000, 1000, 1000), 3, 1000, 1000, 1000);
            calmIs(Samples.alike(3, 1000, -1000, -1000), 3, -1000, -1000, -1000);
            calmIs(Samples.alike(4, 1000, -1000, 1000, -1000), 1, -250, -250, -250, -250);
            calmIs(Samples.alike(4, -1000, 1000, -1000, 1000), 1, 250, 250, 250, 250);
        });
        edge(13, CALM, "the second greatest COMPLAINT counts too, and the third", () -> {
            WonTogether x = threeBounds();
            calmIs(x, 1, 7, 3, 6, 4);
            x.worth(4, 0);
            calmIs(x, 1, 7, 3, 5, 5);
            x.worth(1, 0);
            calmIs(x, 1, 5, 5, 5, 5);
        });
        edge(13, CALM, "many sets stop the first bound, the last two SIDES are told apart by the next", () -> {
            // SIDES 0 and 1 can have no more and no less than 7 and 5 without a COMPLAINT above 0.
            WonTogether x = Samples.game(4, 7, 5, 12, -9, -9, -9, -9, -9, -9, -9, -9, 8, 15, 13, 20);
            calmIs(x, 1, 7, 5, 4, 4);
            x.worth(4, 2);
            calmIs(x, 2, 14, 10, 19, -3);
            x.worth(8, -1);
            calmIs(x, 2, 14, 10, 11, 5);
        });
        edge(13, WHOLE, "the WORTH of all alone, whatever it is", () -> {
            WonTogether x = Samples.game(4, 7, -5, 3, 2, 8, 1, 0, -9, 4, 6, 2, 5, 9, 1, -1000);
            long above = 0;
            for (int side = 0; side < 4; side++) {
                is("calm(" + side + ")", x.calm(side), 1);
                above += x.part(0) * (24 / x.part(1));
            }
            is("all together", above, -24000);
        });
        edge(13, SHARE, "a fraction, that needs not be whole", () ->
                calmIs(Samples.alike(4, 0, 0, 0, 1), 4, 1, 1, 1, 1));
        edge(13, does, "asked again, and after LEAST PAY, ENDS and CORE", () -> {
            WonTogether x = Samples.alike(3, 0, 2, 3);
            x.worth(4, -3);
            calmIs(x, 1, 1, 1, 1);
            x.least(0);
            calmIs(x, 1, 1, 1, 1);
            x.end(2, 1);
            x.core();
            x.least(1);
            calmIs(x, 1, 1, 1, 1);
        });
        edge(13, does, "refused calls between leave what was found", () -> {
            WonTogether x = Samples.alike(3, 0, 2, 3);
            calmIs(x, 1, 1, 1, 1);
            kept("sides(5)", x, o -> o.sides(5), BAD);
            kept("worth(7, 1001)", x, o -> o.worth(7, 1001), BAD_WORTH);
            calmIs(x, 1, 1, 1, 1);
        });
        for (int side : new int[] {-1, 3, 4}) {
            edge(13, "BAD.", side + " is no SIDE of 3", () ->
                    refused("calm(" + side + ")", x -> x.calm(side), BAD));
        }
        edge(13, "BAD.", "the last SIDE of 1 to 4, and one more", () -> {
            for (int n : ONE_TO_FOUR) {
                WonTogether x = Samples.game(n);
                is("calm(" + (n - 1) + ") of " + n, x.calm(n - 1), 1);
                kept("calm(" + n + ") of " + n, x, o -> o.calm(n), BAD);
            }
        });
    }

    private static void promise14() {
        String does = "A number of a TOLD SHARE: what it was.";
        for (int v : new int[] {-10000, -9999, 9999, 10000}) {
            edge(14, TOLD_SHARES, v + " is within -10000 .. 10000", () -> {
                WonTogether x = Samples.some();
                is("give(0, 0, " + v + ")", x.give(0, 0, v), 4);
                is("what it was", x.give(0, 0, 1), v);
                is("give(1, 2, " + v + ")", x.give(1, 2, v), -11);
                is("what it was", x.give(1, 2, 1), v);
            });
        }
        for (int v : new int[] {-10002, -10001, 10001, 10002}) {
            edge(14, "BAD: -100000.", v + " is " + (v < 0 ? "too small" : "too large"), () -> {
                refused("give(0, 0, " + v + ")", x -> x.give(0, 0, v), BAD_WORTH);
                refused("give(1, 2, " + v + ")", x -> x.give(1, 2, v), BAD_WORTH);
            });
        }
        for (int share : new int[] {-1, 2, 3}) {
            edge(14, "BAD: -100000.", share + " is no TOLD SHARE", () ->
                    refused("give(" + share + ", 0, 1)", x -> x.give(share, 0, 1), BAD_WORTH));
        }
        for (int side : new int[] {-1, 3, 4}) {
            edge(14, "BAD: -100000.", side + " is no SIDE of 3", () -> {
                refused("give(0, " + side + ", 1)", x -> x.give(0, side, 1), BAD_WORTH);
                refused("give(1, " + side + ", 1)", x -> x.give(1, side, 1), BAD_WORTH);
            });
        }
        edge(14, "BAD: -100000.", "the last SIDE of 1 to 4, and one more", () -> {
            for (int n : ONE_TO_FOUR) {
                WonTogether x = Samples.game(n);
                is("give(1, " + (n - 1) + ", 3) of " + n, x.give(1, n - 1, 3), 0);
                kept("give(1, " + n + ", 3) of " + n, x, o -> o.give(1, n, 3), BAD_WORTH);
            }
        });
        edge(14, does, "each SIDE of each share has its own", () -> {
            WonTogether x = Samples.full();
            for (int side = 0; side < 4; side++) {
                is("share 0 of " + side, x.give(0, side, side), 10000 - side);
                is("share 1 of " + side, x.give(1, side, -side), side - 10000);
            }
            for (int side = 0; side < 4; side++) {
                is("share 0 of " + side, x.give(0, side, 0), side);
                is("share 1 of " + side, x.give(1, side, 0), -side);
            }
        });
        edge(14, does, "what was -2 is no refusal", () -> {
            WonTogether x = one(0);
            x.give(0, 0, -2);
            is("give(0, 0, 1)", x.give(0, 0, 1), -2);
        });
    }

    private static void promise15() {
        edge(15, COMPLAINT, "the least and the greatest there can be", () -> {
            WonTogether x = Samples.alike(4, 0, 0, 0, -1000);
            for (int side = 0; side < 4; side++) {
                x.give(0, side, 10000);
                x.give(1, side, -10000);
            }
            is("complaint(0, 15)", x.complaint(0, 15), -41000);
            x.worth(15, 1000);
            is("complaint(1, 15)", x.complaint(1, 15), 41000);
        });
        edge(15, SHARE, "of a set: of its SIDES together, for each set", () -> {
            WonTogether x = Samples.full();
            for (int side = 0; side < 4; side++) {
                x.give(0, side, 1 << 3 * side);
            }
            for (int set = 1; set < 16; set++) {
                int share = Integer.parseInt(Integer.toBinaryString(set), 8);
                is("complaint(0, " + set + ")", x.complaint(0, set), 100 * Integer.bitCount(set) - set - share);
            }
        });
        edge(15, "COMPLAINT of a set by a TOLD SHARE.", "each share for itself", () -> {
            is("complaint(0, 3)", Samples.some().complaint(0, 3), 11);
            is("complaint(1, 3)", Samples.some().complaint(1, 3), 39);
            is("complaint(1, 7)", Samples.some().complaint(1, 7), 60);
        });
        edge(15, "COMPLAINT of a set by a TOLD SHARE.", "one SIDE alone; -2 is no refusal", () ->
                is("complaint(1, 1)", one(-2).complaint(1, 1), -2));
        for (int share : new int[] {-1, 2, 3}) {
            edge(15, "BAD: -1000000.", share + " is no TOLD SHARE", () ->
                    refused("complaint(" + share + ", 1)", x -> x.complaint(share, 1), BAD_COMPLAINT));
        }
        for (int set : new int[] {-1, 0, 8, 9, 16}) {
            edge(15, "BAD: -1000000.", set + " is no set of 3 SIDES that has a WORTH", () ->
                    refused("complaint(0, " + set + ")", x -> x.complaint(0, set), BAD_COMPLAINT));
        }
        edge(15, "BAD: -1000000.", "all of 1 to 4 SIDES, and one SIDE more", () -> {
            for (int n : ONE_TO_FOUR) {
                is("all of " + n, Samples.game(n).complaint(0, (1 << n) - 1), 0);
                kept("one more than " + n, Samples.game(n), o -> o.complaint(0, 1 << n), BAD_COMPLAINT);
            }
        });
    }

    private static void promise16() {
        edge(16, SURPLUS, "two SIDES: each alone", () -> {
            WonTogether x = Samples.game(2, 3, 4, 1000);
            x.give(1, 0, 1);
            x.give(1, 1, 5);
            is("surplus(1, 0, 1)", x.surplus(1, 0, 1), 2);
            is("surplus(1, 1, 0)", x.surplus(1, 1, 0), -1);
        });
        edge(16, SURPLUS, "each set with i and without k may be the greatest, no other", () -> {
            for (int set = 1; set < 16; set++) {
                WonTogether x = Samples.alike(4, -1, -1, -1, -1);
                x.worth(set, 1000);
                for (int k = 0; k < 16; k++) {
                    int i = k / 4;
                    int other = k % 4;
                    boolean fits = (set >> i & 1) == 1 && (set >> other & 1) == 0;
                    int due = i == other ? BAD_COMPLAINT : fits ? 1000 : -1;
                    is("surplus(0, " + i + ", " + other + ") by " + set, x.surplus(0, i, other), due);
                }
            }
        });
        edge(16, SURPLUS, "the least and the greatest there can be", () -> {
            WonTogether x = Samples.alike(4, -1000, -1000, -1000, -1000);
            for (int side = 0; side < 4; side++) {
                x.give(0, side, 10000);
                x.give(1, side, -10000);
            }
            is("surplus(0, 3, 0)", x.surplus(0, 3, 0), -11000);
            x.worth(7, 1000);
            is("surplus(1, 0, 3)", x.surplus(1, 0, 3), 31000);
        });
        edge(16, "SURPLUS.", "-2 is no refusal", () ->
                is("surplus(0, 0, 1)", Samples.game(2, -2, 0, 0).surplus(0, 0, 1), -2));
        for (int side = 0; side < 3; side++) {
            int like = side;
            edge(16, "BAD: alike, too: -1000000.", "SIDE " + side + " over itself", () ->
                    refused("surplus(0, " + like + ", " + like + ")", x -> x.surplus(0, like, like), BAD_COMPLAINT));
        }
        edge(16, "BAD: alike, too: -1000000.", "one SIDE alone has no other", () -> {
            kept("surplus(0, 0, 0)", one(1), o -> o.surplus(0, 0, 0), BAD_COMPLAINT);
            kept("surplus(0, 0, 1)", one(1), o -> o.surplus(0, 0, 1), BAD_COMPLAINT);
            kept("surplus(0, 1, 0)", one(1), o -> o.surplus(0, 1, 0), BAD_COMPLAINT);
        });
        for (int share : new int[] {-1, 2, 3}) {
            edge(16, "BAD: alike, too: -1000000.", share + " is no TOLD SHARE", () ->
                    refused("surplus(" + share + ", 0, 1)", x -> x.surplus(share, 0, 1), BAD_COMPLAINT));
        }
        for (int side : new int[] {-1, 3, 4}) {
            edge(16, "BAD: alike, too: -1000000.", side + " is no SIDE of 3", () -> {
                refused("surplus(0, " + side + ", 1)", x -> x.surplus(0, side, 1), BAD_COMPLAINT);
                refused("surplus(0, 1, " + side + ")", x -> x.surplus(0, 1, side), BAD_COMPLAINT);
                refused("surplus(0, " + side + ", " + side + ")", x -> x.surplus(0, side, side), BAD_COMPLAINT);
            });
        }
    }

    private static WonTogether given(WonTogether x, int share, int... numbers) {
        for (int side = 0; side < numbers.length; side++) {
            x.give(share, side, numbers[side]);
        }
        return x;
    }

    private static void promise17() {
        String does = "EVEN: 1, 0.";
        edge(17, WHOLE, "one SIDE alone: WHOLE or not", () -> {
            is("one too few", given(one(4), 0, 3).even(0), 0);
            is("just so", given(one(4), 0, 4).even(0), 1);
            is("one too many", given(one(4), 0, 5).even(0), 0);
        });
        edge(17, EVEN, "not WHOLE by one, though all SURPLUSES are the same", () -> {
            is("one too many", given(Samples.alike(3, 0, 5, 11), 0, 4, 4, 4).even(0), 0);
            is("just so", given(Samples.alike(3, 0, 5, 12), 0, 4, 4, 4).even(0), 1);
            is("one too few", given(Samples.alike(3, 0, 5, 13), 0, 4, 4, 4).even(0), 0);
        });
        edge(17, EVEN, "each two SIDES: one pair that differs is enough", () -> {
            is("two alike", given(Samples.game(2, 0, 0, 4), 1, 2, 2).even(1), 1);
            is("two apart", given(Samples.game(2, 0, 0, 4), 1, 1, 3).even(1), 0);
            for (int a = 0; a < 4; a++) {
                for (int b = 0; b < 4; b++) {
                    WonTogether x = given(Samples.alike(4, 0, 0, 0, 8), 0, 2, 2, 2, 2);
                    x.give(0, a, x.give(0, a, 0) + 1);
                    x.give(0, b, x.give(0, b, 0) - 1);
                    is("one from " + b + " to " + a, x.even(0), a == b ? 1 : 0);
                }
            }
        });
        edge(17, does, "each share for itself; at first all have 0", () -> {
            WonTogether x = given(new WonTogether(), 1, 1, 0, -1);
            is("even(0)", x.even(0), 1);
            is("even(1)", x.even(1), 0);
        });
        for (int share : new int[] {-1, 2, 3}) {
            edge(17, "BAD.", share + " is no TOLD SHARE", () ->
                    refused("even(" + share + ")", x -> x.even(share), BAD));
        }
        edge(17, does, "asking changes nothing", () -> refused("even(0)", x -> x.even(0), 0));
    }

    private static void promise18() {
        String does = "The set by which TOLD SHARE a is BETTER than the other one.";
        edge(18, BETTER, "as much is not more, one more is", () -> {
            WonTogether x = one(1000);
            is("as much", x.better(0), NONE);
            x.give(0, 0, 1);
            is("one more", x.better(0), 1);
            is("one less", x.better(1), NONE);
        });
        edge(18, BETTER, "just its WORTH is no more than it, one more is", () -> {
            is("just its WORTH", given(one(7), 0, 7).better(0), 1);
            is("one more", given(one(7), 0, 8).better(0), NONE);
            WonTogether two = given(Samples.game(2, 0, 0, 7), 1, 3, 4);
            is("two: just their WORTH", two.better(1), 3);
            two.worth(3, 6);
            is("two: one more", two.better(1), NONE);
        });
        edge(18, BETTER, "each of its SIDES, the first and the last too", () -> {
            is("not the first", given(Samples.alike(4, -1, -1, -1, 9), 0, 0, 1, 1, 1).better(0), NONE);
            is("not the last", given(Samples.alike(4, -1, -1, -1, 9), 0, 1, 1, 1, 0).better(0), NONE);
            is("each", given(Samples.alike(4, -1, -1, -1, 9), 0, 1, 1, 1, 1).better(0), 15);
        });
        edge(18, BETTER, "the first such set as a number", () -> {
            WonTogether x = given(Samples.alike(4, -1, -1, -1, 9), 0, 1, 1, 1, 1);
            int[] sets = {14, 13, 12, 7, 5, 4, 2, 1};
            for (int set : sets) {
                x.worth(set, 9);
                is("better(0)", x.better(0), set);
            }
        });
        edge(18, "NONE.", "like shares", () -> {
            is("better(0)", new WonTogether().better(0), NONE);
            is("better(1)", new WonTogether().better(1), NONE);
        });
        edge(18, "NONE.", "nothing is changed", () -> refused("better(1)", x -> x.better(1), NONE));
        edge(18, does, "at both ends of what they can have", () -> {
            WonTogether x = Samples.alike(4, -1000, -1000, -1000, -1000);
            given(x, 0, -10000, -10000, -10000, -10000);
            given(x, 1, 10000, 10000, 10000, 10000);
            is("better(1)", x.better(1), NONE);
            is("better(0)", x.better(0), NONE);
            given(x, 1, -9999, -9999, -9999, -9999);
            is("better(1)", x.better(1), 1);
        });
        for (int a : new int[] {-1, 2, 3}) {
            edge(18, "BAD.", a + " is no TOLD SHARE", () -> refused("better(" + a + ")", x -> x.better(a), BAD));
        }
    }
}
