/** The last of an object's 512 calls answers like the others. */
final class LastEdges extends Edge {
    private static final String LAST = "An object is used for at most 512 calls after it has been made; what later calls"
            + " answer is free.";
    private static final int CALLS = 512;

    private LastEdges() {
    }

    /** Something of everything, used so long that just so many calls are left. */
    private static WonTogether usedUpTo(int left) {
        WonTogether x = Samples.some();
        int k = 0;
        for (int used = Samples.CALLS_OF_SOME; used < CALLS - left - 1; used++) {
            askOnly(x, k);
            k++;
        }
        // The fraction is then what it was in the beginning.
        x.value(2, 1);
        return x;
    }

    /** By turns, calls that change nothing but the fraction, and calls that are refused. */
    private static void askOnly(WonTogether x, int k) {
        Call call = Call.ALL.get(k % Call.ALL.size());
        boolean changes = call.name().matches("sides|worth|give|voter|weight|quota|claim|estate|place|user|pay"
                + "|market|gain|tell");
        if (changes) {
            call.on(x, LOW, HIGH, LOW);
        } else {
            call.onFitting(x);
        }
    }

    static void run() {
        edge(1, LAST, "so many calls make the object with something of everything", () -> {
            // sides, worth, give, voter, quota, claim, estate, place, user, pay, market, gain, tell, value.
            int made = 1 + 7 + 6 + 4 + 1 + 3 + 1 + 4 + 4 + 4 + 1 + 6 + 2 + 1;
            is("calls", Samples.CALLS_OF_SOME, made);
        });
        for (Call call : Call.ALL) {
            edge(call.promise(), LAST, call.name() + " is the 512th", () ->
                    is(call.told(call.with(call.numbers(), 0)), call.onFitting(usedUpTo(1)),
                            call.onFitting(Samples.some())));
            if (call.numbers() > 0) {
                edge(call.promise(), LAST, call.name() + " is the 512th and refused", () ->
                        is(call.told(LOW, LOW, LOW), call.on(usedUpTo(1), LOW, LOW, LOW), call.bad()));
            }
            edge(call.promise(), LAST, call.name() + " is the 511th, then digest", () -> {
                WonTogether x = usedUpTo(2);
                WonTogether twin = Samples.some();
                call.onFitting(x);
                call.onFitting(twin);
                is("digest()", x.digest(), twin.digest());
            });
            edge(call.promise(), LAST, call.name() + " is the 510th, then THE FRACTION", () -> {
                WonTogether x = usedUpTo(3);
                WonTogether twin = Samples.some();
                call.onFitting(x);
                call.onFitting(twin);
                is("part(0)", x.part(0), twin.part(0));
                is("part(1)", x.part(1), twin.part(1));
            });
        }
    }
}
