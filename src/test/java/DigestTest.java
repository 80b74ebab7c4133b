/** Promise 43: digest, of a new object, of one with something of everything, of a full one. */
public final class DigestTest {
    private DigestTest() {
    }

    private static WonTogether something() {
        WonTogether x = new WonTogether();
        x.sides(2);
        x.worth(1, -1);
        x.worth(2, 2);
        x.worth(3, 3);
        x.give(0, 0, 4);
        x.give(0, 1, -5);
        x.give(1, 0, 6);
        x.give(1, 1, 7);
        x.voter(8);
        x.voter(9);
        x.quota(10);
        x.claim(11);
        x.claim(12);
        x.estate(13);
        x.place(0, 14);
        x.place(1, 15);
        x.user(2);
        x.user(0);
        x.pay(0, 16);
        x.pay(1, 17);
        x.market(2, 3);
        for (int k = 0; k < 6; k++) {
            x.gain(k / 3, k % 3, 18 + k);
        }
        x.tell(0, 24);
        x.tell(1, 25);
        x.tell(2, 26);
        x.value(0, 0);
        return x;
    }

    private static long dueOf(long worth, long above) {
        return Due.digestOf(2, 2, 2, 3, 2, 2, 3, -1, 2, worth, 4, -5, 6, 7, 8, 9, 10, 11, 12, 13,
                0, 14, 1, 15, 2, 16, 0, 17, 18, 19, 20, 21, 22, 23, 24, 25, 26, above, 1);
    }

    private static void everyPart() {
        WonTogether x = something();
        // Orders 0 1 and 1 0: -1 and 1 together by two.
        Due.is("something of everything", x.digest(), dueOf(3, 0));
        x.worth(3, 5);
        Due.is("another worth", x.digest(), dueOf(5, 0));
        x.value(0, 0);
        Due.is("another fraction", x.digest(), dueOf(5, 1));
        Due.is("digest changes nothing", x.digest(), dueOf(5, 1));
    }

    /** Calls that only ask leave all but the fraction as it was. */
    private static void askingLeavesAll() {
        WonTogether x = something();
        x.worth(3, 1);
        long digest = x.digest();
        x.dividend(3);
        x.margin(1, 0);
        x.fails(0);
        x.fails(1);
        x.parting(-1);
        x.part(0);
        x.core();
        x.complaint(0, 3);
        x.surplus(0, 0, 1);
        x.even(0);
        x.better(0);
        x.wins(3);
        x.minimal(-1);
        x.power(0, 1);
        x.same(-1);
        x.alone(3);
        x.held();
        x.most(1);
        x.price(2, 0);
        x.price(2, 1);
        x.clear();
        x.count(6);
        Due.is("asking leaves digest", x.digest(), digest);
        Due.is("the ends of a core", x.end(0, 0), 1);
        x.value(0, 0);
        x.least(0);
        x.least(1);
        x.calm(0);
        x.deegan(0);
        x.award(0, 0);
        x.paid(0);
        x.worth(3, 5);
        x.value(0, 0);
        Due.is("telling leaves all but the fraction", x.digest(), dueOf(5, 1));
    }

    private static void full() {
        WonTogether x = new WonTogether();
        java.util.List<Long> row = new java.util.ArrayList<>();
        for (long count : new long[] {4, 8, 6, 10, 8, 4, 4}) {
            row.add(count);
        }
        x.sides(4);
        for (int set = 1; set < 16; set++) {
            x.worth(set, 1000 - set);
            row.add(1000L - set);
        }
        for (int k = 0; k < 8; k++) {
            x.give(k / 4, k % 4, -10000 + k);
            row.add(-10000L + k);
        }
        for (int k = 0; k < 8; k++) {
            x.voter(50 - k);
            row.add(50L - k);
        }
        x.quota(400);
        row.add(400L);
        for (int k = 0; k < 6; k++) {
            x.claim(1000 - k);
            row.add(1000L - k);
        }
        x.estate(6000);
        row.add(6000L);
        for (int k = 1; k < 10; k++) {
            x.place(k / 2, 1000 - k);
            row.add((long) k / 2);
            row.add(1000L - k);
        }
        for (int k = 0; k < 8; k++) {
            x.user(9 - k);
            x.pay(k, 10000 - k);
            row.add(9L - k);
            row.add(10000L - k);
        }
        x.market(4, 4);
        for (int k = 0; k < 20; k++) {
            if (k < 16) {
                x.gain(k / 4, k % 4, 1000 - k);
            } else {
                x.tell(k - 16, 1000 - k);
            }
            row.add(1000L - k);
        }
        row.add(0L);
        row.add(1L);
        Due.is("a full object", x.digest(), Due.digestOf(row.stream().mapToLong(v -> v).toArray()));
    }

    public static void main(String[] args) {
        everyPart();
        askingLeavesAll();
        full();
        Due.end("DigestTest");
    }
}
