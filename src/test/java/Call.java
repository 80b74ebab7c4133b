import java.util.List;

/**
 * One method of the face, with numbers that fit the object with something of everything, and
 * what it answers to numbers that do not.
 */
record Call(int promise, String name, int numbers, Everything.Part part, long bad, String badWords, Ask ask, int... fitting) {
    interface Ask {
        long of(WonTogether x, int a, int b, int c);
    }

    private static final long BAD = -2;
    private static final long BAD_WORTH = -100000;
    private static final long BAD_COMPLAINT = -1000000;

    static final List<Call> ALL = List.of(
            sides(2, "sides", 1, BAD, "BAD.", (x, a, b, c) -> x.sides(a), 2),
            sides(3, "worth", 2, BAD_WORTH, "BAD: -100000.", (x, a, b, c) -> x.worth(a, b), 7, 5),
            sides(4, "dividend", 1, BAD_WORTH, "BAD: -100000.", (x, a, b, c) -> x.dividend(a), 7),
            sides(5, "margin", 2, BAD_WORTH, "BAD: -100000.", (x, a, b, c) -> x.margin(a, b), 6, 1),
            sides(6, "value", 2, BAD, "BAD.", (x, a, b, c) -> x.value(a, b), 1, 0),
            sides(7, "fails", 1, BAD, "BAD.", (x, a, b, c) -> x.fails(a), 1),
            sides(8, "parting", 1, BAD_WORTH, "BAD: -100000.", (x, a, b, c) -> x.parting(a), 2),
            sides(9, "part", 1, -1000000000000000000L, "BAD: -1000000000000000000.", (x, a, b, c) -> x.part(a), 0),
            sides(10, "least", 1, BAD, "BAD.", (x, a, b, c) -> x.least(a), 0),
            sides(11, "core", 0, 0, "", (x, a, b, c) -> x.core()),
            sides(12, "end", 2, BAD, "BAD.", (x, a, b, c) -> x.end(a, b), 1, 1),
            sides(13, "calm", 1, BAD, "BAD.", (x, a, b, c) -> x.calm(a), 2),
            sides(14, "give", 3, BAD_WORTH, "BAD: -100000.", (x, a, b, c) -> x.give(a, b, c), 1, 2, 3),
            sides(15, "complaint", 2, BAD_COMPLAINT, "BAD: -1000000.", (x, a, b, c) -> x.complaint(a, b), 1, 7),
            sides(16, "surplus", 3, BAD_COMPLAINT, "BAD: alike, too: -1000000.",
                    (x, a, b, c) -> x.surplus(a, b, c), 1, 2, 0),
            sides(17, "even", 1, BAD, "BAD.", (x, a, b, c) -> x.even(a), 1),
            sides(18, "better", 1, BAD, "BAD.", (x, a, b, c) -> x.better(a), 0),
            votes(19, "voter", 1, "BAD;", (x, a, b, c) -> x.voter(a), 9),
            votes(20, "weight", 2, "BAD.", (x, a, b, c) -> x.weight(a, b), 3, 9),
            votes(21, "quota", 1, "BAD.", (x, a, b, c) -> x.quota(a), 5),
            votes(22, "wins", 1, "BAD.", (x, a, b, c) -> x.wins(a), 5),
            votes(23, "minimal", 1, "BAD.", (x, a, b, c) -> x.minimal(a), 2),
            votes(24, "power", 2, "BAD.", (x, a, b, c) -> x.power(a, b), 2, 1),
            votes(25, "deegan", 1, "BAD.", (x, a, b, c) -> x.deegan(a), 1),
            votes(26, "same", 1, "BAD; NO: above 5 VOTERS, or none.", (x, a, b, c) -> x.same(a), 0),
            of(27, "claim", 1, Everything.Part.CLAIMS, BAD, "BAD;", (x, a, b, c) -> x.claim(a), 9),
            of(28, "estate", 1, Everything.Part.CLAIMS, BAD, "BAD: 0 .. 6000.", (x, a, b, c) -> x.estate(a), 9),
            of(29, "award", 2, Everything.Part.CLAIMS, BAD, "BAD;", (x, a, b, c) -> x.award(a, b), 1, 4),
            tree(30, "place", 2, "BAD;", (x, a, b, c) -> x.place(a, b), 4, 9),
            tree(31, "user", 1, "BAD;", (x, a, b, c) -> x.user(a), 2),
            tree(32, "alone", 1, "BAD.", (x, a, b, c) -> x.alone(a), 6),
            tree(33, "paid", 1, "BAD.", (x, a, b, c) -> x.paid(a), 1),
            tree(34, "pay", 2, "BAD.", (x, a, b, c) -> x.pay(a, b), 3, 99),
            tree(35, "held", 0, "", (x, a, b, c) -> x.held()),
            market(36, "market", 2, BAD, "BAD.", (x, a, b, c) -> x.market(a, b), 1, 2),
            market(37, "gain", 3, BAD, "BAD.", (x, a, b, c) -> x.gain(a, b, c), 2, 1, 9),
            market(38, "most", 1, -10, "BAD: -10.", (x, a, b, c) -> x.most(a), 1),
            market(39, "price", 2, BAD, "BAD.", (x, a, b, c) -> x.price(a, b), 1, 0),
            market(40, "tell", 2, BAD, "BAD.", (x, a, b, c) -> x.tell(a, b), 1, 9),
            market(41, "clear", 0, 0, "", (x, a, b, c) -> x.clear()),
            market(42, "count", 1, BAD, "BAD.", (x, a, b, c) -> x.count(a), 3),
            market(43, "digest", 0, 0, "", (x, a, b, c) -> x.digest()));

    private static Call of(int promise, String name, int numbers, Everything.Part part, long bad, String words, Ask ask,
            int... fitting) {
        return new Call(promise, name, numbers, part, bad, words, ask, fitting);
    }

    private static Call sides(int promise, String name, int numbers, long bad, String words, Ask ask, int... fitting) {
        return of(promise, name, numbers, Everything.Part.SIDES, bad, words, ask, fitting);
    }

    private static Call votes(int promise, String name, int numbers, String words, Ask ask, int... fitting) {
        return of(promise, name, numbers, Everything.Part.VOTES, BAD, words, ask, fitting);
    }

    private static Call tree(int promise, String name, int numbers, String words, Ask ask, int... fitting) {
        return of(promise, name, numbers, Everything.Part.TREE, BAD, words, ask, fitting);
    }

    private static Call market(int promise, String name, int numbers, long bad, String words, Ask ask, int... fitting) {
        return of(promise, name, numbers, Everything.Part.MARKET, bad, words, ask, fitting);
    }

    /** The call with three numbers; those that it does not take are left out. */
    long on(WonTogether x, int... given) {
        return ask.of(x, given[0], given[1], given[2]);
    }

    long onFitting(WonTogether x) {
        return on(x, with(numbers, 0));
    }

    /** The fitting numbers, but one of them put so. */
    int[] with(int at, int number) {
        int[] given = new int[4];
        System.arraycopy(fitting, 0, given, 0, fitting.length);
        given[at] = number;
        return given;
    }

    String told(int... given) {
        StringBuilder text = new StringBuilder(name).append('(');
        for (int k = 0; k < numbers; k++) {
            text.append(k == 0 ? "" : ", ").append(given[k]);
        }
        return text.append(')').toString();
    }
}
