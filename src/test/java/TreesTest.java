/** Promises 30 to 35: a tree of ways. */
public final class TreesTest {
    private static final int LOW = Integer.MIN_VALUE;
    private static final int HIGH = Integer.MAX_VALUE;

    private TreesTest() {
    }

    /** Two ways that part behind a common one, and one of its own; users 0 to 4. */
    private static WonTogether tree() {
        WonTogether x = new WonTogether();
        x.place(0, 10);
        x.place(1, 5);
        x.place(1, 7);
        x.place(0, 20);
        for (int place : new int[] {2, 3, 4, 0, 2}) {
            x.user(place);
        }
        return x;
    }

    private static void promise30Place() {
        WonTogether x = new WonTogether();
        int[][] wrong = {{1, 0}, {-1, 0}, {0, 1001}, {0, -1}, {HIGH, 0}, {LOW, 0}, {0, HIGH}};
        for (int[] w : wrong) {
            Due.refused("place " + w[0] + " " + w[1], x, x.digest(), x.place(w[0], w[1]), -2);
        }
        for (int k = 1; k <= 9; k++) {
            Due.is("place " + k, x.place(k - 1, k % 2 == 0 ? 1000 : 0), k);
            Due.is("places", x.count(3), k + 1);
        }
        Due.refused("a tenth", x, x.digest(), x.place(9, 0), -4);
        Due.refused("a tenth, wrong", x, x.digest(), x.place(10, 0), -2);
        x.user(9);
        Due.is("all ways in a row", x.alone(1), 4000);
    }

    private static void promise31User() {
        WonTogether x = tree();
        for (int place : new int[] {5, -1, LOW, HIGH}) {
            Due.refused("user(" + place + ")", x, x.digest(), x.user(place), -2);
        }
        for (int k = 5; k < 8; k++) {
            Due.is("user " + k, x.user(k - 5), k);
            Due.is("users", x.count(4), k + 1);
        }
        Due.refused("a ninth", x, x.digest(), x.user(0), -4);
        Due.refused("a ninth, wrong", x, x.digest(), x.user(5), -2);
        Due.is("eight users", x.alone(255), 42);
    }

    private static void promise32Alone() {
        WonTogether x = tree();
        int[] sets = {0, 1, 2, 3, 4, 8, 12, 16, 17, 18, 31};
        int[] due = {0, 15, 17, 22, 20, 0, 20, 15, 15, 22, 42};
        for (int k = 0; k < sets.length; k++) {
            Due.is("alone(" + sets[k] + ")", x.alone(sets[k]), due[k]);
        }
        for (int set : new int[] {32, -1, LOW, HIGH}) {
            Due.refused("alone(" + set + ")", x, x.digest(), x.alone(set), -2);
        }
        Due.is("none of no users", new WonTogether().alone(0), 0);
        Due.is("no users", new WonTogether().alone(1), -2);
    }

    private static void promise33Paid() {
        WonTogether x = tree();
        Due.told("paid(0)", x, x.paid(0), 35, 6);
        Due.told("paid(1)", x, x.paid(1), 31, 3);
        Due.told("paid(2)", x, x.paid(2), 20, 1);
        Due.told("paid(3)", x, x.paid(3), 0, 1);
        Due.told("paid(4)", x, x.paid(4), 35, 6);
        for (int user : new int[] {5, -1, LOW, HIGH}) {
            Due.refused("paid(" + user + ")", x, x.digest(), x.paid(user), -2);
        }
        x.place(2, 1);
        x.user(5);
        Due.told("one more on the way", x, x.paid(0), 25, 6);
        x.user(5);
        x.user(5);
        Due.told("six, five, three", x, x.paid(5), 3, 1);
    }

    private static void promise34Pay() {
        WonTogether x = tree();
        Due.is("pay(4, 10000)", x.pay(4, 10000), 0);
        Due.is("pay(4, 0)", x.pay(4, 0), 10000);
        Due.is("pay(0, 3)", x.pay(0, 3), 0);
        int[][] wrong = {{5, 0}, {-1, 0}, {0, 10001}, {0, -1}, {HIGH, 0}, {LOW, 0}, {0, HIGH}};
        for (int[] w : wrong) {
            Due.refused("pay " + w[0] + " " + w[1], x, x.digest(), x.pay(w[0], w[1]), -2);
        }
        Due.is("no users", new WonTogether().pay(0, 1), -2);
    }

    private static void promise35Held() {
        Due.is("no users", new WonTogether().held(), -1);
        WonTogether x = tree();
        Due.is("nothing paid", x.held(), -1);
        x.pay(0, 15);
        Due.is("just what it costs", x.held(), -1);
        x.pay(1, 7);
        Due.is("two, just what they cost", x.held(), -1);
        x.pay(1, 8);
        Due.is("two pay more", x.held(), 3);
        x.pay(4, 1);
        Due.is("the first set stays", x.held(), 3);
        x.pay(1, 0);
        Due.is("two at one place", x.held(), 17);
        x.pay(3, 1);
        Due.is("the one at the root", x.held(), 8);
        x.pay(2, 21);
        Due.is("one alone", x.held(), 4);
        WonTogether last = tree();
        for (int user = 0; user < 5; user++) {
            last.pay(user, new int[] {5, 14, 20, 0, 3}[user]);
        }
        Due.is("all just what they cost", last.held(), -1);
        last.pay(4, 4);
        Due.is("three of them", last.held(), 19);
        WonTogether all = new WonTogether();
        all.place(0, 6);
        for (int user = 0; user < 3; user++) {
            all.user(1);
            all.pay(user, 3);
        }
        Due.is("all of them", all.held(), 7);
        all.pay(0, 7);
        Due.is("the first alone", all.held(), 1);
    }

    public static void main(String[] args) {
        promise30Place();
        promise31User();
        promise32Alone();
        promise33Paid();
        promise34Pay();
        promise35Held();
        Due.end("TreesTest");
    }
}
