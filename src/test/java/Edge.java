import java.util.List;
import java.util.function.Supplier;
import java.util.function.ToLongFunction;

/**
 * Tests of single sentences. Each is named by its promise's number, by the document's own
 * words and by the case that it tries; the words are looked up in the document.
 */
abstract class Edge {
    static final int NONE = -1;
    static final int BAD = -2;
    static final int NO = -3;
    static final int FULL = -4;
    static final int BAD_WORTH = -100000;
    static final int BAD_COMPLAINT = -1000000;
    static final long BAD_PART = -1000000000000000000L;
    static final int[] ONE_TO_FOUR = {1, 2, 3, 4};
    static final int[] NONE_TO_EIGHT = {0, 1, 2, 3, 4, 5, 6, 7, 8};
    static final int LOW = Samples.LOW;
    static final int HIGH = Samples.HIGH;

    private static final Document DOCUMENT = Document.read();
    private static final boolean[] TESTED = new boolean[Document.PROMISES + 1];
    private static int tests = 0;
    private static boolean telling = false;

    /** From now on the name of each test is printed. */
    static void tellNames() {
        telling = true;
    }

    /** A test of what these words of a promise (or of the terms, for it) say of one case. */
    static void edge(int promise, String words, String which, Runnable test) {
        tests++;
        TESTED[promise] = true;
        String name = "promise " + promise + ", \"" + words + "\", " + which;
        if (telling) {
            System.out.println(name);
        }
        Due.during(name + ": ");
        if (DOCUMENT != null) {
            Due.holds("the document says so", DOCUMENT.quote(promise, words));
        }
        int before = Due.asked();
        try {
            test.run();
        } catch (RuntimeException e) {
            Due.holds("threw " + e, false);
        }
        Due.holds("something is asked", Due.asked() > before);
        Due.during("");
    }

    static void is(String call, long got, long want) {
        Due.is(call, got, want);
    }

    /** A telling call answers 1 and leaves the fraction above by below. */
    static void told(String call, WonTogether x, int got, long above, long below) {
        Due.told(call, x, got, above, below);
    }

    /** A call on this very object that must answer so and leave digest and the fraction. */
    static void kept(String call, WonTogether x, ToLongFunction<WonTogether> asked, long want) {
        long digest = x.digest();
        long above = x.part(0);
        long below = x.part(1);
        is(call, asked.applyAsLong(x), want);
        is(call + ", then digest", x.digest(), digest);
        is(call + ", then part(0)", x.part(0), above);
        is(call + ", then part(1)", x.part(1), below);
    }

    /**
     * A call that must answer so and change nothing: digest and the fraction are what they
     * were, and so is all that the calls tell of this part, beside a twin that was not asked.
     */
    static void unchanged(String call, Everything.Part part, Supplier<WonTogether> made,
            ToLongFunction<WonTogether> asked, long want) {
        WonTogether x = made.get();
        kept(call, x, asked, want);
        sameSeen(call, Everything.of(x, part), Everything.of(made.get(), part));
    }

    static void sameSeen(String call, List<String> got, List<String> want) {
        is(call + ", then so much is told", got.size(), want.size());
        for (int k = 0; k < Math.min(got.size(), want.size()); k++) {
            Due.holds(call + ", then " + got.get(k) + ", before " + want.get(k), got.get(k).equals(want.get(k)));
        }
    }

    /** Ends all: every promise must have a test, and no word of them may be left without. */
    static void endAll(String test) {
        for (int k = 1; k < TESTED.length; k++) {
            Due.holds("promise " + k + " has a test", TESTED[k]);
        }
        if (DOCUMENT != null) {
            for (String silent : DOCUMENT.silent()) {
                Due.holds("no test quotes " + silent, false);
            }
        }
        System.out.println(test + ": " + tests + " sentences and cases");
        Due.end(test);
    }
}
