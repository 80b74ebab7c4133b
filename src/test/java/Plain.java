/** The whole face again, by the words of the document: what RunsTest holds the program against. */
final class Plain {
    private final PlainGame game = new PlainGame();
    private final PlainVotes votes = new PlainVotes();
    private final PlainClaims claims = new PlainClaims();
    private final PlainTrees trees = new PlainTrees();
    private final PlainMarket market = new PlainMarket();
    private Ratio fraction = Ratio.ZERO;

    private int tell(Ratio told) {
        fraction = told;
        return 1;
    }

    private static boolean out(int v, int low, int high) {
        return v < low || v > high;
    }

    private boolean noSet(int set) {
        return out(set, 1, game.all());
    }

    private boolean noSide(int side) {
        return out(side, 0, game.n - 1);
    }

    long call(int method, int a, int b, int c) {
        if (method < 8) {
            return worths(method, a, b);
        }
        if (method < 17) {
            return shares(method, a, b, c);
        }
        if (method < 25) {
            return votes(method, a, b);
        }
        if (method < 28) {
            return claims(method, a, b);
        }
        return method < 34 ? trees(method, a, b) : markets(method, a, b, c);
    }

    private long worths(int method, int a, int b) {
        switch (method) {
            case 0:
                if (out(a, 1, 4)) {
                    return -2;
                }
                game.restart(a);
                return 1;
            case 1:
                if (noSet(a) || out(b, -1000, 1000)) {
                    return -100000;
                }
                int was = game.v[a];
                game.v[a] = b;
                game.forget();
                return was;
            case 2:
                return noSet(a) ? -100000 : game.dividend(a);
            case 3:
                int[] order = game.order(a);
                return order == null || noSide(b) ? -100000 : game.margin(order, b);
            case 4:
                return noSide(a) || out(b, 0, 1) ? -2
                        : tell(b == 0 ? game.shapley(a) : game.banzhaf(a));
            case 5:
                return out(a, 0, 1) ? -2 : game.fails(a);
            case 6:
                if (a != -1 && noSide(a)) {
                    return -100000;
                }
                return a == -1 ? game.parting()[0] : -game.parting()[a + 2];
            default:
                return out(a, 0, 1) ? -1000000000000000000L : a == 0 ? fraction.above : fraction.below;
        }
    }

    private long shares(int method, int a, int b, int c) {
        switch (method) {
            case 8:
                if (out(a, 0, 1)) {
                    return -2;
                }
                return a == 1 && game.n == 1 ? 0 : tell(a == 0 ? game.leastPay() : game.strain());
            case 9:
                return game.hasCore() ? 1 : 0;
            case 10:
                return noSide(a) || out(b, 0, 1) ? -2 : game.hasCore() ? tell(game.end(a, b)) : 0;
            case 11:
                return noSide(a) ? -2 : tell(game.calm(a));
            case 12:
                if (out(a, 0, 1) || noSide(b) || out(c, -10000, 10000)) {
                    return -100000;
                }
                int was = game.told[a][b];
                game.told[a][b] = c;
                return was;
            case 13:
                return out(a, 0, 1) || noSet(b) ? -1000000 : game.complaint(a, b);
            case 14:
                return out(a, 0, 1) || noSide(b) || noSide(c) || b == c ? -1000000 : game.surplus(a, b, c);
            case 15:
                return out(a, 0, 1) ? -2 : game.even(a) ? 1 : 0;
            default:
                return out(a, 0, 1) ? -2 : game.better(a);
        }
    }

    private long votes(int method, int a, int b) {
        int many = votes.weights.size();
        switch (method) {
            case 17:
                if (out(a, 0, 50)) {
                    return -2;
                }
                if (many == 8) {
                    return -4;
                }
                votes.weights.add(a);
                votes.forget();
                return many;
            case 18:
                if (out(a, 0, many - 1) || out(b, 0, 50)) {
                    return -2;
                }
                votes.forget();
                return votes.weights.set(a, b);
            case 19:
                if (out(a, 1, 400)) {
                    return -2;
                }
                int was = votes.quota;
                votes.quota = a;
                votes.forget();
                return was;
            case 20:
                return out(a, 0, (1 << many) - 1) ? -2 : votes.wins(a) ? 1 : 0;
            case 21:
                if (a < -1) {
                    return -2;
                }
                int sets = votes.leastSets().size();
                return a == -1 ? sets : a < sets ? votes.leastSets().get(a) : -1;
            case 22:
                return out(a, 0, many - 1) || out(b, 0, 3) ? -2 : power(a, b);
            case 23:
                if (out(a, 0, many - 1)) {
                    return -2;
                }
                return votes.leastSets().isEmpty() ? 0 : tell(votes.deegan(a));
            default:
                if (out(a, -1, many - 1)) {
                    return -2;
                }
                if (out(many, 1, 5)) {
                    return -3;
                }
                int[] same = votes.same();
                return same == null ? -5 : a == -1 ? same[many] : same[a];
        }
    }

    private int power(int voter, int what) {
        switch (what) {
            case 0:
                return votes.turns(voter);
            case 1:
                return votes.pivots(voter);
            case 2:
                return votes.blocks(voter) ? 1 : 0;
            default:
                return votes.idle(voter) ? 1 : 0;
        }
    }

    private long claims(int method, int a, int b) {
        int many = claims.claims.size();
        switch (method) {
            case 25:
                if (out(a, 0, 1000)) {
                    return -2;
                }
                if (many == 6) {
                    return -4;
                }
                claims.claims.add(a);
                return many;
            case 26:
                if (out(a, 0, 6000)) {
                    return -2;
                }
                int was = claims.estate;
                claims.estate = a;
                return was;
            default:
                if (out(a, 0, many - 1) || out(b, 0, 4)) {
                    return -2;
                }
                return claims.estate > claims.total() ? -3 : tell(claims.award(a, b));
        }
    }

    private long trees(int method, int a, int b) {
        int users = trees.users.size();
        int places = trees.places.size();
        switch (method) {
            case 28:
                if (out(a, 0, places - 1) || out(b, 0, 1000)) {
                    return -2;
                }
                if (places == 10) {
                    return -4;
                }
                trees.places.add(new int[] {a, b});
                return places;
            case 29:
                if (out(a, 0, places - 1)) {
                    return -2;
                }
                if (users == 8) {
                    return -4;
                }
                trees.users.add(new int[] {a, 0});
                return users;
            case 30:
                return out(a, 0, (1 << users) - 1) ? -2 : trees.alone(a);
            case 31:
                return out(a, 0, users - 1) ? -2 : tell(trees.paid(a));
            case 32:
                if (out(a, 0, users - 1) || out(b, 0, 10000)) {
                    return -2;
                }
                int was = trees.users.get(a)[1];
                trees.users.get(a)[1] = b;
                return was;
            default:
                return trees.held();
        }
    }

    private long markets(int method, int a, int b, int c) {
        switch (method) {
            case 34:
                if (out(a, 0, 4) || out(b, 0, 4)) {
                    return -2;
                }
                market.restart(a, b);
                return 1;
            case 35:
                if (out(a, 0, market.buyers - 1) || out(b, 0, market.sellers - 1) || out(c, 0, 1000)) {
                    return -2;
                }
                int was = market.gains[a][b];
                market.gains[a][b] = c;
                return was;
            case 36:
                return out(a, -1, market.buyers - 1) ? -10 : market.most(a);
            case 37:
                return out(a, 0, market.sellers - 1) || out(b, 0, 1) ? -2 : market.price(a, b);
            case 38:
                if (out(a, 0, market.sellers - 1) || out(b, 0, 1000)) {
                    return -2;
                }
                int price = market.prices[a];
                market.prices[a] = b;
                return price;
            case 39:
                return market.clear() ? 1 : 0;
            case 40:
                return out(a, 0, 6) ? -2 : count(a);
            default:
                return digest();
        }
    }

    int count(int what) {
        int[] counts = {game.n, votes.weights.size(), claims.claims.size(), trees.places.size(),
            trees.users.size(), market.buyers, market.sellers};
        return counts[what];
    }

    private long digest() {
        java.util.List<Long> row = new java.util.ArrayList<>();
        for (int what = 0; what < 7; what++) {
            row.add((long) count(what));
        }
        for (int set = 1; set <= game.all(); set++) {
            row.add((long) game.v[set]);
        }
        for (int[] share : game.told) {
            for (int side = 0; side < game.n; side++) {
                row.add((long) share[side]);
            }
        }
        votes.weights.forEach(w -> row.add((long) w));
        row.add((long) votes.quota);
        claims.claims.forEach(c -> row.add((long) c));
        row.add((long) claims.estate);
        for (int[] place : trees.places.subList(1, trees.places.size())) {
            row.add((long) place[0]);
            row.add((long) place[1]);
        }
        for (int[] user : trees.users) {
            row.add((long) user[0]);
            row.add((long) user[1]);
        }
        for (int b = 0; b < market.buyers; b++) {
            for (int s = 0; s < market.sellers; s++) {
                row.add((long) market.gains[b][s]);
            }
        }
        for (int s = 0; s < market.sellers; s++) {
            row.add((long) market.prices[s]);
        }
        row.add(fraction.above);
        row.add(fraction.below);
        long h = 353;
        for (long v : row) {
            h = 31 * h + v;
        }
        return h;
    }
}
