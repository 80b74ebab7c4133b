/** Promises 19 to 26: votes. */
public final class VotesTest {
    private static final int LOW = Integer.MIN_VALUE;
    private static final int HIGH = Integer.MAX_VALUE;

    private VotesTest() {
    }

    private static WonTogether voters(int quota, int... weights) {
        WonTogether x = new WonTogether();
        for (int weight : weights) {
            x.voter(weight);
        }
        x.quota(quota);
        return x;
    }

    private static void promise19Voter() {
        WonTogether x = new WonTogether();
        for (int weight : new int[] {51, -1, LOW, HIGH}) {
            Due.refused("voter(" + weight + ")", x, x.digest(), x.voter(weight), -2);
        }
        for (int k = 0; k < 8; k++) {
            Due.is("voter " + k, x.voter(k % 2 == 0 ? 50 : 0), k);
            Due.is("voters", x.count(1), k + 1);
        }
        Due.refused("a ninth", x, x.digest(), x.voter(0), -4);
        Due.refused("a ninth, wrong", x, x.digest(), x.voter(51), -2);
        Due.is("weight of the last", x.weight(7, 0), 0);
        Due.is("weight of the first", x.weight(0, 0), 50);
    }

    private static void promise20Weight() {
        WonTogether x = voters(5, 4, 3);
        Due.is("weight(1, 50)", x.weight(1, 50), 3);
        Due.is("weight(1, 0)", x.weight(1, 0), 50);
        Due.is("the other stays", x.weight(0, 5), 4);
        Due.is("sets win by new weights", x.wins(1), 1);
        x.weight(0, 4);
        Due.is("sets lose by new weights", x.wins(3), 0);
        int[][] wrong = {{2, 1}, {-1, 1}, {0, 51}, {0, -1}, {HIGH, 0}, {LOW, 0}, {0, HIGH}};
        for (int[] w : wrong) {
            Due.refused("weight " + w[0] + " " + w[1], x, x.digest(), x.weight(w[0], w[1]), -2);
        }
        Due.is("no voter", new WonTogether().weight(0, 1), -2);
    }

    private static void promise21Quota() {
        WonTogether x = new WonTogether();
        Due.is("quota(400)", x.quota(400), 1);
        Due.is("quota(1)", x.quota(1), 400);
        Due.is("quota(7)", x.quota(7), 1);
        for (int v : new int[] {0, 401, -1, LOW, HIGH}) {
            Due.refused("quota(" + v + ")", x, x.digest(), x.quota(v), -2);
        }
    }

    private static void promise22Wins() {
        WonTogether x = voters(6, 4, 3, 2, 1);
        int winning = 0;
        for (int set = 0; set < 16; set++) {
            winning += x.wins(set) << set;
        }
        // 4+3, 4+2, 4+3+2, 4+3+1, 4+2+1, 3+2+1, all.
        Due.is("winning sets", winning, 1 << 3 | 1 << 5 | 1 << 7 | 1 << 11 | 1 << 13 | 1 << 14 | 1 << 15);
        for (int set : new int[] {16, -1, LOW, HIGH}) {
            Due.refused("wins(" + set + ")", x, x.digest(), x.wins(set), -2);
        }
        Due.is("none without voters", new WonTogether().wins(0), 0);
        Due.is("no set without voters", new WonTogether().wins(1), -2);
        WonTogether full = voters(400, 50, 50, 50, 50, 50, 50, 50, 50);
        Due.is("all needed", full.wins(255), 1);
        Due.is("one less", full.wins(254), 0);
        Due.is("no such set", full.wins(256), -2);
    }

    private static void promise23Minimal() {
        WonTogether x = voters(6, 4, 3, 2, 1);
        int[] due = {3, 5, 14, -1, -1};
        Due.is("how many", x.minimal(-1), 3);
        for (int k = 0; k < due.length; k++) {
            Due.is("minimal(" + k + ")", x.minimal(k), due[k]);
        }
        Due.is("not so many", x.minimal(HIGH), -1);
        x.voter(0);
        Due.is("one without weight", x.minimal(-1), 3);
        for (int what : new int[] {-2, -3, LOW}) {
            Due.refused("minimal(" + what + ")", x, x.digest(), x.minimal(what), -2);
        }
        Due.is("no voters", new WonTogether().minimal(-1), 0);
        Due.is("no voters", new WonTogether().minimal(0), -1);
        x.quota(11);
        Due.is("none wins", x.minimal(-1), 0);
        WonTogether first = voters(5, 5, 0, 1);
        Due.is("one voter wins", first.minimal(-1), 1);
        Due.is("one voter wins", first.minimal(0), 1);
        first.quota(6);
        Due.is("the first and the last", first.minimal(0), 5);
        first.weight(1, 1);
        first.quota(7);
        Due.is("all needed", first.minimal(-1), 1);
        Due.is("all needed", first.minimal(0), 7);
        WonTogether eight = voters(4, 1, 1, 1, 1, 1, 1, 1, 1);
        Due.is("four of eight", eight.minimal(-1), 70);
        Due.is("the first four of eight", eight.minimal(0), 15);
        Due.is("the last four of eight", eight.minimal(69), 240);
        Due.is("no more fours of eight", eight.minimal(70), -1);
    }

    private static void powerIs(WonTogether x, int voter, int... due) {
        for (int what = 0; what < 4; what++) {
            Due.is("power(" + voter + ", " + what + ")", x.power(voter, what), due[what]);
        }
    }

    private static void promise24Power() {
        WonTogether x = voters(6, 4, 3, 2, 1);
        powerIs(x, 0, 5, 10, 0, 0);
        powerIs(x, 1, 3, 6, 0, 0);
        powerIs(x, 2, 3, 6, 0, 0);
        powerIs(x, 3, 1, 2, 0, 0);
        x.quota(7);
        powerIs(x, 0, 5, 14, 1, 0);
        powerIs(x, 3, 1, 2, 0, 0);
        x.quota(8);
        Due.is("8: voter 1 blocks", x.power(1, 2), 1);
        Due.is("8: voter 2 does not", x.power(2, 2), 0);
        x.quota(9);
        powerIs(x, 3, 0, 0, 0, 1);
        x.quota(10);
        powerIs(x, 3, 1, 6, 1, 0);
        x.quota(11);
        powerIs(x, 0, 0, 0, 0, 1);
        WonTogether first = voters(5, 5, 4);
        powerIs(first, 0, 2, 2, 1, 0);
        powerIs(first, 1, 0, 0, 0, 1);
        WonTogether eight = voters(8, 1, 1, 1, 1, 1, 1, 1, 1);
        powerIs(eight, 7, 1, 5040, 1, 0);
        int[][] wrong = {{4, 0}, {-1, 0}, {0, 4}, {0, -1}, {HIGH, 0}, {0, LOW}, {4, 4}};
        for (int[] w : wrong) {
            Due.refused("power " + w[0] + " " + w[1], x, x.digest(), x.power(w[0], w[1]), -2);
        }
    }

    private static void promise25Deegan() {
        WonTogether x = voters(6, 4, 3, 2, 1);
        Due.told("deegan(0)", x, x.deegan(0), 1, 3);
        Due.told("deegan(1)", x, x.deegan(1), 5, 18);
        Due.told("deegan(2)", x, x.deegan(2), 5, 18);
        Due.told("deegan(3)", x, x.deegan(3), 1, 9);
        for (int voter : new int[] {4, -1, LOW, HIGH}) {
            Due.refused("deegan(" + voter + ")", x, x.digest(), x.deegan(voter), -2);
        }
        x.quota(11);
        Due.refused("none wins", x, x.digest(), x.deegan(0), 0);
        Due.refused("none wins, no voter", x, x.digest(), x.deegan(4), -2);
        x.quota(9);
        Due.told("in no least set", x, x.deegan(3), 0, 1);
        WonTogether first = voters(5, 5, 4);
        Due.told("one alone", first, first.deegan(0), 1, 1);
        Due.told("one without need", first, first.deegan(1), 0, 1);
        WonTogether seven = voters(7, 1, 1, 1, 1, 1, 1, 1, 1);
        Due.told("seven of eight", seven, seven.deegan(5), 1, 8);
    }

    private static void sameIs(WonTogether x, int quota, int... row) {
        Due.is("same(-1)", x.same(-1), quota);
        for (int voter = 0; voter < row.length; voter++) {
            Due.is("same(" + voter + ")", x.same(voter), row[voter]);
        }
    }

    private static void promise26Same() {
        WonTogether x = voters(6, 4, 3, 2, 1);
        sameIs(x, 5, 3, 2, 2, 1);
        x.weight(3, 0);
        sameIs(x, 3, 2, 1, 1, 0);
        x.quota(9);
        sameIs(x, 3, 1, 1, 1, 0);
        x.quota(10);
        sameIs(x, 1, 0, 0, 0, 0);
        sameIs(voters(5, 0, 50), 1, 0, 1);
        sameIs(voters(51, 50, 49, 1), 3, 2, 1, 1);
        sameIs(voters(4, 1, 2, 4, 3), 3, 1, 1, 3, 2);
        sameIs(voters(6, 3, 3, 2, 2, 2), 6, 3, 3, 2, 2, 2);
        sameIs(voters(6, 4, 3, 3, 2, 1), -5, -5, -5, -5, -5, -5);
        sameIs(voters(1, 7), 1, 1);
        sameIs(voters(1, 0), 1, 0);
        for (int what : new int[] {4, -2, LOW, HIGH}) {
            Due.refused("same(" + what + ")", x, x.digest(), x.same(what), -2);
        }
        Due.is("no voters", new WonTogether().same(-1), -3);
        Due.is("no voters, none of them", new WonTogether().same(0), -2);
        WonTogether six = voters(3, 1, 1, 1, 1, 1);
        sameIs(six, 3, 1, 1, 1, 1, 1);
        six.voter(0);
        Due.refused("six voters", six, six.digest(), six.same(-1), -3);
        Due.refused("six voters", six, six.digest(), six.same(5), -3);
        Due.refused("six voters, no seventh", six, six.digest(), six.same(6), -2);
    }

    public static void main(String[] args) {
        promise19Voter();
        promise20Weight();
        promise21Quota();
        promise22Wins();
        promise23Minimal();
        promise24Power();
        promise25Deegan();
        promise26Same();
        Due.end("VotesTest");
    }
}
