import java.util.ArrayList;
import java.util.List;

/**
 * All that the calls tell of one part of an object: what they only ask first, then what was
 * told it, which is read by telling something else. So the object is used up.
 */
final class Everything {
    enum Part { SIDES, VOTES, CLAIMS, TREE, MARKET }

    private final WonTogether x;
    private final List<String> seen = new ArrayList<>();

    private Everything(WonTogether x) {
        this.x = x;
    }

    static List<String> of(WonTogether x, Part part) {
        Everything all = new Everything(x);
        for (int what = 0; what < 7; what++) {
            all.put("count " + what, x.count(what));
        }
        all.put("digest", x.digest());
        all.put("above", x.part(0));
        all.put("below", x.part(1));
        switch (part) {
            case SIDES:
                all.worths(x.count(0));
                all.shares(x.count(0));
                break;
            case VOTES:
                all.votes(x.count(1));
                break;
            case CLAIMS:
                all.claims(x.count(2));
                break;
            case TREE:
                all.tree(x.count(4));
                break;
            default:
                all.market(x.count(5), x.count(6));
        }
        return all.seen;
    }

    private void put(String call, long answer) {
        seen.add(call + ": " + answer);
    }

    private void tell(String call, long answer) {
        seen.add(call + ": " + answer + ", " + x.part(0) + " by " + x.part(1));
    }

    private void worths(int n) {
        for (int set = 1; set < 1 << n; set++) {
            put("dividend " + set, x.dividend(set));
        }
        int rising = 0;
        for (int side = 0; side < n; side++) {
            rising = 4 * rising + side;
        }
        for (int side = 0; side < n; side++) {
            put("margin " + side, x.margin(rising, side));
            tell("shapley " + side, x.value(side, 0));
            tell("banzhaf " + side, x.value(side, 1));
        }
        put("joining", x.fails(0));
        put("more", x.fails(1));
        for (int what = -1; what < n; what++) {
            put("parting " + what, x.parting(what));
        }
    }

    private void shares(int n) {
        put("core", x.core());
        tell("least pay", x.least(0));
        tell("strain", x.least(1));
        for (int side = 0; side < n; side++) {
            tell("calm " + side, x.calm(side));
            tell("least end " + side, x.end(side, 0));
            tell("greatest end " + side, x.end(side, 1));
        }
        for (int share = 0; share < 2; share++) {
            for (int set = 1; set < 1 << n; set++) {
                put("complaint " + share + " " + set, x.complaint(share, set));
            }
            put("surplus " + share, x.surplus(share, n - 1, 0));
            put("even " + share, x.even(share));
            put("better " + share, x.better(share));
        }
        for (int side = 0; side < n; side++) {
            put("given 0 " + side, x.give(0, side, 0));
            put("given 1 " + side, x.give(1, side, 0));
        }
        for (int set = 1; set < 1 << n; set++) {
            put("worth " + set, x.worth(set, 0));
        }
    }

    private void votes(int n) {
        for (int set = 0; set < 1 << n; set += n > 4 ? 5 : 1) {
            put("wins " + set, x.wins(set));
        }
        for (int what = -1; what < 4; what++) {
            put("minimal " + what, x.minimal(what));
            put("same " + what, x.same(what));
        }
        for (int voter = 0; voter < n; voter++) {
            for (int what = 0; what < 4; what++) {
                put("power " + voter + " " + what, x.power(voter, what));
            }
            tell("deegan " + voter, x.deegan(voter));
        }
        put("quota", x.quota(1));
        for (int voter = 0; voter < n; voter++) {
            put("weight " + voter, x.weight(voter, 0));
        }
    }

    private void claims(int n) {
        for (int claim = 0; claim < n; claim++) {
            for (int rule = 0; rule < 5; rule++) {
                tell("award " + claim + " " + rule, x.award(claim, rule));
            }
        }
        put("estate", x.estate(0));
    }

    private void tree(int users) {
        for (int set = 0; set < 1 << users; set += users > 5 ? 5 : 1) {
            put("alone " + set, x.alone(set));
        }
        for (int user = 0; user < users; user++) {
            tell("paid " + user, x.paid(user));
        }
        put("held", x.held());
        for (int user = 0; user < users; user++) {
            put("pay " + user, x.pay(user, 0));
        }
        if (users < 8) {
            // A user at the last place tells what all ways to it cost.
            put("one more user", x.user(x.count(3) - 1));
            put("the last place", x.alone(1 << users));
        }
    }

    private void market(int buyers, int sellers) {
        for (int what = -1; what < buyers; what++) {
            put("most " + what, x.most(what));
        }
        put("clear", x.clear());
        for (int s = 0; s < sellers; s++) {
            put("cheap " + s, x.price(s, 0));
            put("dear " + s, x.price(s, 1));
            put("told " + s, x.tell(s, 0));
        }
        for (int b = 0; b < buyers; b++) {
            for (int s = 0; s < sellers; s++) {
                put("gain " + b + " " + s, x.gain(b, s, 0));
            }
        }
    }
}
