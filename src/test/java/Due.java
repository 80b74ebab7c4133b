/** Compares answers with what is due, prints those that differ, and counts both. */
final class Due {
    private static int asked = 0;
    private static int wrong = 0;
    private static String during = "";

    private Due() {
    }

    /** What is printed ahead of every wrong answer from now on. */
    static void during(String test) {
        during = test;
    }

    static int asked() {
        return asked;
    }

    static void is(String call, long got, long want) {
        asked++;
        if (got != want) {
            wrong++;
            System.out.println(during + call + " answered " + got + ", due is " + want);
        }
    }

    /** A telling call answers 1 and leaves the fraction above by below. */
    static void told(String call, WonTogether x, int got, long above, long below) {
        is(call, got, 1);
        is(call + " above", x.part(0), above);
        is(call + " below", x.part(1), below);
    }

    /** A refused call answers so and leaves the object as it was. */
    static void refused(String call, WonTogether x, long digestBefore, long got, long want) {
        is(call, got, want);
        is(call + " leaves digest", x.digest(), digestBefore);
    }

    /** The digest of an object whose numbers, in the document's order, are these. */
    static long digestOf(long... row) {
        long h = 353;
        for (long v : row) {
            h = 31 * h + v;
        }
        return h;
    }

    static void holds(String what, boolean so) {
        is(what, so ? 1 : 0, 1);
    }

    /** Ends the test: code 1 if anything was wrong or nothing was asked. */
    static void end(String test) {
        System.out.println(test + ": " + asked + " asked, " + wrong + " wrong");
        if (wrong != 0 || asked == 0) {
            System.exit(1);
        }
    }
}
