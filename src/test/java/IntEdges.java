/** Numbers at both ends of int, and numbers that look like fitting ones in their lower bits. */
final class IntEdges extends Edge {
    private static final int[] FAR = {LOW, LOW + 1, HIGH - 1, HIGH};
    private static final int[] HIGHER_BITS = {1 << 16, 1 << 30, 1 << 31};

    private IntEdges() {
    }

    static void run() {
        for (Call call : Call.ALL) {
            for (int at = 0; at < call.numbers(); at++) {
                tryNumber(call, at);
            }
            if (call.numbers() > 1) {
                edge(call.promise(), call.badWords(), "all numbers at an end of int", () -> {
                    refused(call, LOW, LOW, LOW);
                    refused(call, HIGH, HIGH, HIGH);
                    refused(call, LOW, HIGH, LOW);
                    refused(call, HIGH, LOW, HIGH);
                });
            }
        }
        edge(23, "NONE: not so many.", "the greatest int", () -> {
            is("minimal(" + HIGH + ")", Samples.some().minimal(HIGH), NONE);
            is("minimal(" + HIGH + ") without VOTERS", new WonTogether().minimal(HIGH), NONE);
        });
    }

    private static void tryNumber(Call call, int at) {
        String which = (at == 0 ? "the first" : at == 1 ? "the second" : "the third") + " number ";
        edge(call.promise(), call.badWords(), which + "at both ends of int", () -> {
            for (int far : FAR) {
                refused(call, call.with(at, far));
            }
        });
        edge(call.promise(), call.badWords(), which + "fits in its lower bits alone", () -> {
            for (int bits : HIGHER_BITS) {
                refused(call, call.with(at, call.fitting()[at] + bits));
            }
        });
    }

    private static void refused(Call call, int... given) {
        // The i-th LEAST set has no greatest i.
        boolean beyond = call.promise() == 23 && given[0] >= 0;
        unchanged(call.told(given), call.part(), Samples::some, x -> call.on(x, given), beyond ? NONE : call.bad());
    }
}
