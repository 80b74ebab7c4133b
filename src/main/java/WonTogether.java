/**
 * What is won together, told by seven small parts that know nothing of one another:
 * worths of sets, shares, votes, claims, a tree of ways, a market, and the one fraction
 * that every telling call leaves behind. Everything that a call needs is made with the
 * object, so that no call makes anything.
 */
public final class WonTogether {
    public static final int NONE = -1, BAD = -2, NO = -3, FULL = -4;

    // Answers of refused calls whose right answers may be as small as BAD.
    private static final int BAD_WORTH = -100000;
    private static final int BAD_COMPLAINT = -1000000;
    private static final long BAD_PART = -1000000000000000000L;
    private static final int BAD_SELLER = -10;
    private static final int NO_ROW = -5;

    private static final int MOST_SIDES = 4;
    private static final int MOST_VOTERS = 8;
    private static final int MOST_SAME_VOTERS = 5;
    private static final int MOST_SAME_SUM = 12;
    private static final int MOST_CLAIMS = 6;
    private static final int MOST_PLACES = 10;
    private static final int MOST_USERS = 8;
    private static final int MOST_TRADERS = 4;

    // Far above what any search here can need: it only makes the ends of loops plain.
    private static final int MANY_TURNS = 1000000;

    // Every number from 1 to 8 divides it, so that sums of such parts stay whole.
    private static final int PARTS_OF_EIGHT = 840;

    private static final int[] FACTORIAL = {1, 1, 2, 6, 24, 120, 720, 5040};

    private final Fraction fraction = new Fraction();
    private final Worths worths = new Worths();
    private final Shares shares = new Shares();
    private final Votes votes = new Votes();
    private final Claims claims = new Claims();
    private final Ways ways = new Ways();
    private final Trade trade = new Trade();

    public WonTogether() {
    }

    // ---- worths

    public int sides(int n) {
        if (!within(n, 1, MOST_SIDES)) {
            return BAD;
        }
        worths.restart(n);
        shares.restart();
        return 1;
    }

    public int worth(int set, int v) {
        if (!worths.knowsSet(set) || !within(v, -1000, 1000)) {
            return BAD_WORTH;
        }
        shares.forgetCalm();
        return worths.replaceWorth(set, v);
    }

    public int dividend(int set) {
        return worths.knowsSet(set) ? worths.dividendOf(set) : BAD_WORTH;
    }

    public int margin(int order, int side) {
        if (!worths.knowsSide(side) || !worths.knowsOrder(order)) {
            return BAD_WORTH;
        }
        return worths.marginIn(order, side);
    }

    public int value(int side, int what) {
        if (!worths.knowsSide(side) || !within(what, 0, 1)) {
            return BAD;
        }
        if (what == 0) {
            fraction.put(worths.marginsInOrders(side), ordersOf(worths.many));
        } else {
            fraction.put(worths.marginsOverSets(side), 1L << (worths.many - 1));
        }
        return 1;
    }

    public int fails(int what) {
        if (!within(what, 0, 1)) {
            return BAD;
        }
        return what == 0 ? worths.firstBetterApart() : worths.firstLessByMore();
    }

    public int parting(int what) {
        if (what != NONE && !worths.knowsSide(what)) {
            return BAD_WORTH;
        }
        int row = worths.bestParting();
        return what == NONE ? worths.partingWorth(row) : worths.leastBeside(row, what);
    }

    public long part(int what) {
        if (!within(what, 0, 1)) {
            return BAD_PART;
        }
        return what == 0 ? fraction.above : fraction.below;
    }

    // ---- shares

    public int least(int what) {
        if (!within(what, 0, 1)) {
            return BAD;
        }
        if (what == 0) {
            shares.layLeastPay(worths);
            shares.tellRow(worths.many, fraction);
            return 1;
        }
        if (worths.many == 1) {
            return 0;
        }
        shares.findCalm(worths);
        shares.tellStrain(fraction);
        return 1;
    }

    public int core() {
        shares.layLeastPay(worths);
        return shares.isWhole(worths) ? 1 : 0;
    }

    public int end(int side, int what) {
        if (!worths.knowsSide(side) || !within(what, 0, 1)) {
            return BAD;
        }
        shares.layLeastPay(worths);
        if (!shares.isWhole(worths)) {
            return 0;
        }
        shares.driveSide(worths.many, side, what == 0 ? -1 : 1);
        shares.tellRow(side, fraction);
        return 1;
    }

    public int calm(int side) {
        if (!worths.knowsSide(side)) {
            return BAD;
        }
        shares.findCalm(worths);
        shares.tellCalm(side, fraction);
        return 1;
    }

    public int give(int share, int side, int v) {
        if (!within(share, 0, 1) || !worths.knowsSide(side) || !within(v, -10000, 10000)) {
            return BAD_WORTH;
        }
        return shares.replaceGiven(share, side, v);
    }

    public int complaint(int share, int set) {
        if (!within(share, 0, 1) || !worths.knowsSet(set)) {
            return BAD_COMPLAINT;
        }
        return shares.complaintOf(worths, share, set);
    }

    public int surplus(int share, int i, int k) {
        if (!within(share, 0, 1) || !worths.knowsSide(i) || !worths.knowsSide(k) || i == k) {
            return BAD_COMPLAINT;
        }
        return shares.surplusOver(worths, share, i, k);
    }

    public int even(int share) {
        if (!within(share, 0, 1)) {
            return BAD;
        }
        return shares.standsEven(worths, share) ? 1 : 0;
    }

    public int better(int a) {
        return within(a, 0, 1) ? shares.firstBetterSet(worths, a) : BAD;
    }

    // ---- votes

    public int voter(int weight) {
        if (!within(weight, 0, 50)) {
            return BAD;
        }
        return votes.many < MOST_VOTERS ? votes.addVoter(weight) : FULL;
    }

    public int weight(int voter, int v) {
        if (!votes.knowsVoter(voter) || !within(v, 0, 50)) {
            return BAD;
        }
        return votes.replaceWeight(voter, v);
    }

    public int quota(int v) {
        return within(v, 1, 400) ? votes.replaceQuota(v) : BAD;
    }

    public int wins(int set) {
        if (!within(set, 0, votes.allVoters())) {
            return BAD;
        }
        return votes.isWinning(set) ? 1 : 0;
    }

    public int minimal(int what) {
        if (what < NONE) {
            return BAD;
        }
        return what == NONE ? votes.leastSets() : votes.leastSetAt(what);
    }

    public int power(int voter, int what) {
        if (!votes.knowsVoter(voter)) {
            return BAD;
        }
        switch (what) {
            case 0:
                return votes.turnsOf(voter);
            case 1:
                return votes.pivotsOf(voter);
            case 2:
                return votes.isBlocking(voter) ? 1 : 0;
            case 3:
                return votes.isIdle(voter) ? 1 : 0;
            default:
                return BAD;
        }
    }

    public int deegan(int voter) {
        if (!votes.knowsVoter(voter)) {
            return BAD;
        }
        int sets = votes.leastSets();
        if (sets == 0) {
            return 0;
        }
        fraction.put(votes.partsOfLeastSets(voter), (long) PARTS_OF_EIGHT * sets);
        return 1;
    }

    public int same(int what) {
        if (what != NONE && !votes.knowsVoter(what)) {
            return BAD;
        }
        if (!within(votes.many, 1, MOST_SAME_VOTERS)) {
            return NO;
        }
        return votes.tellSame(what);
    }

    // ---- claims

    public int claim(int v) {
        if (!within(v, 0, 1000)) {
            return BAD;
        }
        return claims.many < MOST_CLAIMS ? claims.addClaim(v) : FULL;
    }

    public int estate(int e) {
        return within(e, 0, 6000) ? claims.replaceEstate(e) : BAD;
    }

    public int award(int claim, int rule) {
        if (!within(claim, 0, claims.many - 1) || !within(rule, 0, 4)) {
            return BAD;
        }
        if (claims.estate > claims.total()) {
            return NO;
        }
        claims.tellAward(claim, rule, fraction);
        return 1;
    }

    // ---- trees, markets

    public int place(int on, int cost) {
        if (!ways.knowsPlace(on) || !within(cost, 0, 1000)) {
            return BAD;
        }
        return ways.places < MOST_PLACES ? ways.addPlace(on, cost) : FULL;
    }

    public int user(int place) {
        if (!ways.knowsPlace(place)) {
            return BAD;
        }
        return ways.users < MOST_USERS ? ways.addUser(place) : FULL;
    }

    public int alone(int set) {
        return within(set, 0, ways.allUsers()) ? ways.costOf(set) : BAD;
    }

    public int paid(int user) {
        if (!ways.knowsUser(user)) {
            return BAD;
        }
        fraction.put(ways.partsOfWays(user), PARTS_OF_EIGHT);
        return 1;
    }

    public int pay(int user, int v) {
        if (!ways.knowsUser(user) || !within(v, 0, 10000)) {
            return BAD;
        }
        return ways.replacePay(user, v);
    }

    public int held() {
        return ways.firstOverpaying();
    }

    public int market(int buyers, int sellers) {
        if (!within(buyers, 0, MOST_TRADERS) || !within(sellers, 0, MOST_TRADERS)) {
            return BAD;
        }
        trade.restart(buyers, sellers);
        return 1;
    }

    public int gain(int buyer, int seller, int v) {
        if (!trade.knowsBuyer(buyer) || !trade.knowsSeller(seller) || !within(v, 0, 1000)) {
            return BAD;
        }
        return trade.replaceGain(buyer, seller, v);
    }

    public int most(int what) {
        if (what != NONE && !trade.knowsBuyer(what)) {
            return BAD_SELLER;
        }
        return what == NONE ? trade.greatestSum() : trade.sellerOf(what);
    }

    public int price(int seller, int what) {
        if (!trade.knowsSeller(seller) || !within(what, 0, 1)) {
            return BAD;
        }
        return what == 0 ? trade.cheapPrice(seller) : trade.dearPrice(seller);
    }

    public int tell(int seller, int v) {
        if (!trade.knowsSeller(seller) || !within(v, 0, 1000)) {
            return BAD;
        }
        return trade.replacePrice(seller, v);
    }

    public int clear() {
        return trade.pricesFit() ? 1 : 0;
    }

    public int count(int what) {
        switch (what) {
            case 0:
                return worths.many;
            case 1:
                return votes.many;
            case 2:
                return claims.many;
            case 3:
                return ways.places;
            case 4:
                return ways.users;
            case 5:
                return trade.buyers;
            case 6:
                return trade.sellers;
            default:
                return BAD;
        }
    }

    public long digest() {
        long h = 353;
        for (int what = 0; what <= 6; what++) {
            h = mix(h, count(what));
        }
        h = worths.mixInto(h);
        h = shares.mixInto(h, worths.many);
        h = votes.mixInto(h);
        h = claims.mixInto(h);
        h = ways.mixInto(h);
        h = trade.mixInto(h);
        return mix(mix(h, fraction.above), fraction.below);
    }

    // ---- what several parts use

    private static long mix(long h, long v) {
        return 31 * h + v;
    }

    private static boolean within(int v, int low, int high) {
        return v >= low && v <= high;
    }

    private static boolean has(int set, int member) {
        return (set >> member & 1) == 1;
    }

    private static long commonFactor(long a, long b) {
        long greater = a < 0 ? -a : a;
        long lesser = b < 0 ? -b : b;
        for (int turn = 0; turn < MANY_TURNS && lesser != 0; turn++) {
            long rest = greater % lesser;
            greater = lesser;
            lesser = rest;
        }
        return greater;
    }

    private static int ordersOf(int many) {
        return within(many, 0, FACTORIAL.length - 1) ? FACTORIAL[many] : 0;
    }

    /** In how many orders of many just those of one set of so many stand ahead of one more. */
    private static int ordersBehind(int ahead, int many) {
        return ordersOf(ahead) * ordersOf(many - 1 - ahead);
    }

    /** The one fraction that the telling calls leave behind. */
    private static final class Fraction {
        private long above = 0;
        private long below = 1;

        private void put(long newAbove, long newBelow) {
            long factor = commonFactor(newAbove, newBelow);
            if (factor == 0 || newBelow <= 0) {
                return;
            }
            above = newAbove / factor;
            below = newBelow / factor;
        }
    }

    /** The worths of all sets of sides; that of none stays 0. */
    private static final class Worths {
        private int many = 3;
        private final int[] of = new int[1 << MOST_SIDES];

        private void restart(int n) {
            many = n;
            for (int set = 0; set < of.length; set++) {
                of[set] = 0;
            }
        }

        private int all() {
            return (1 << many) - 1;
        }

        private boolean knowsSet(int set) {
            return within(set, 1, all());
        }

        private boolean knowsSide(int side) {
            return within(side, 0, many - 1);
        }

        private int replaceWorth(int set, int v) {
            int was = of[set];
            of[set] = v;
            return was;
        }

        private int dividendOf(int set) {
            int sum = 0;
            for (int inner = 1; inner <= set; inner++) {
                if ((inner & set) == inner) {
                    int missing = Integer.bitCount(set - inner);
                    sum += missing % 2 == 0 ? of[inner] : -of[inner];
                }
            }
            return sum;
        }

        /** The digit to the base 4 that stands at a side's place of a row, the first highest. */
        private int digitAt(int row, int place) {
            return row >> 2 * (many - 1 - place) & 3;
        }

        private boolean knowsOrder(int order) {
            if (!within(order, 0, (1 << 2 * many) - 1)) {
                return false;
            }
            int seen = 0;
            for (int place = 0; place < many; place++) {
                seen |= 1 << digitAt(order, place);
            }
            return seen == all();
        }

        private int marginIn(int order, int side) {
            int ahead = 0;
            for (int place = 0; place < many; place++) {
                int next = digitAt(order, place);
                if (next == side) {
                    break;
                }
                ahead |= 1 << next;
            }
            return added(ahead, side);
        }

        private int added(int set, int side) {
            return of[set | 1 << side] - of[set];
        }

        private int marginsInOrders(int side) {
            int sum = 0;
            for (int set = 0; set <= all(); set++) {
                if (!has(set, side)) {
                    sum += ordersBehind(Integer.bitCount(set), many) * added(set, side);
                }
            }
            return sum;
        }

        private int marginsOverSets(int side) {
            int sum = 0;
            for (int set = 0; set <= all(); set++) {
                if (!has(set, side)) {
                    sum += added(set, side);
                }
            }
            return sum;
        }

        private int firstBetterApart() {
            for (int a = 1; a <= all(); a++) {
                for (int b = a + 1; b <= all(); b++) {
                    if ((a & b) == 0 && of[a] + of[b] > of[a | b]) {
                        return 16 * a + b;
                    }
                }
            }
            return NONE;
        }

        private int firstLessByMore() {
            for (int a = 1; a <= all(); a++) {
                for (int b = a + 1; b <= all(); b++) {
                    if (of[a] + of[b] > of[a | b] + of[a & b]) {
                        return 16 * a + b;
                    }
                }
            }
            return NONE;
        }

        /** The best parting as a row of digits: for each side the least one of its set. */
        private int bestParting() {
            int best = 0;
            // Row 0 puts all sides in one set; rows rise, so a like one never comes ahead.
            for (int row = 1; row < 1 << 2 * many; row++) {
                if (isParting(row) && beats(row, best)) {
                    best = row;
                }
            }
            return best;
        }

        private boolean isParting(int row) {
            for (int side = 0; side < many; side++) {
                int first = digitAt(row, side);
                if (first > side || digitAt(row, first) != first) {
                    return false;
                }
            }
            return true;
        }

        private boolean beats(int row, int best) {
            int more = partingWorth(row) - partingWorth(best);
            return more > 0 || more == 0 && partingSets(row) < partingSets(best);
        }

        private int partingSets(int row) {
            int sets = 0;
            for (int side = 0; side < many; side++) {
                if (digitAt(row, side) == side) {
                    sets++;
                }
            }
            return sets;
        }

        private int partingWorth(int row) {
            int sum = 0;
            for (int first = 0; first < many; first++) {
                int set = 0;
                for (int side = 0; side < many; side++) {
                    if (digitAt(row, side) == first) {
                        set |= 1 << side;
                    }
                }
                sum += of[set];
            }
            return sum;
        }

        private int leastBeside(int row, int side) {
            return digitAt(row, side);
        }

        private long mixInto(long h) {
            long mixed = h;
            for (int set = 1; set <= all(); set++) {
                mixed = mix(mixed, of[set]);
            }
            return mixed;
        }
    }

    /**
     * Rows of whole numbers that tell how what is bounded hangs on a few columns that are 0
     * or more: below * row = constant + sum of factor * column. At the point where all
     * columns are 0 every row of a set is 0 or more, and each exchange keeps that so.
     * A row that tells no set's room may have any sign and so never leaves.
     */
    private static final class Board {
        private static final int MOST_ROWS = 20;
        private static final int MOST_COLUMNS = MOST_SIDES;
        private static final int BELOW = 0;
        private static final int CONSTANT = 1;
        private static final int FIRST = 2;

        private final long[][] cell = new long[MOST_ROWS][FIRST + MOST_COLUMNS];
        private final int[] rowSet = new int[MOST_ROWS];
        private final int[] columnSet = new int[MOST_COLUMNS];
        private int rows = 0;
        private int columns = 0;

        private void restart(int newColumns) {
            rows = 0;
            columns = Math.min(newColumns, MOST_COLUMNS);
            for (int column = 0; column < MOST_COLUMNS; column++) {
                columnSet[column] = 0;
            }
        }

        /** Adds a row without factors; its number, or NONE when the board is full. */
        private int addRow(int set, long constant) {
            if (rows >= MOST_ROWS) {
                return NONE;
            }
            long[] row = cell[rows];
            for (int k = 0; k < row.length; k++) {
                row[k] = 0;
            }
            row[BELOW] = 1;
            row[CONSTANT] = constant;
            rowSet[rows] = set;
            rows++;
            return rows - 1;
        }

        private void putFactor(int row, int column, long factor) {
            if (row >= 0 && row < rows && column >= 0 && column < columns) {
                cell[row][FIRST + column] = factor;
            }
        }

        private long factorOf(int row, int column) {
            if (row < 0 || row >= rows || column < 0 || column >= columns) {
                return 0;
            }
            return cell[row][FIRST + column];
        }

        private long constantOf(int row) {
            return row >= 0 && row < rows ? cell[row][CONSTANT] : 0;
        }

        private long belowOf(int row) {
            return row >= 0 && row < rows ? cell[row][BELOW] : 1;
        }

        /** Brings every column that is free in the beginning among the rows. */
        private void enterAll() {
            for (int column = 0; column < columns; column++) {
                enter(column);
            }
        }

        /** The row that then tells what the column told, or NONE if nothing bounds it. */
        private int enter(int column) {
            int row = firstStopping(column);
            if (row != NONE) {
                exchange(row, column);
            }
            return row;
        }

        /** The greatest (sign 1) or least (sign -1) that a row can be. */
        private void drive(int row, int sign) {
            for (int turn = 0; turn < MANY_TURNS; turn++) {
                int column = firstDriving(row, sign);
                if (column == NONE || enter(column) == NONE) {
                    return;
                }
            }
        }

        /** Always the least set: by that rule (Bland's) no run of exchanges comes round. */
        private int firstDriving(int row, int sign) {
            int found = NONE;
            for (int column = 0; column < columns; column++) {
                if (sign * factorOf(row, column) > 0
                        && (found == NONE || columnSet[column] < columnSet[found])) {
                    found = column;
                }
            }
            return found;
        }

        /** The set's row that is 0 first when the column grows, of like ones the least set. */
        private int firstStopping(int column) {
            int found = NONE;
            for (int row = 0; row < rows; row++) {
                if (rowSet[row] > 0 && factorOf(row, column) < 0
                        && (found == NONE || stopsAhead(row, found, column))) {
                    found = row;
                }
            }
            return found;
        }

        private boolean stopsAhead(int row, int other, int column) {
            long own = constantOf(row) * -factorOf(other, column);
            long others = constantOf(other) * -factorOf(row, column);
            return own < others || own == others && rowSet[row] < rowSet[other];
        }

        /** A row that the column makes less and the column change their parts. */
        private void exchange(int row, int column) {
            if (factorOf(row, column) >= 0) {
                return;
            }
            turnRow(cell[row], FIRST + column);
            shorten(cell[row]);
            for (int other = 0; other < rows; other++) {
                if (other != row && factorOf(other, column) != 0) {
                    replaceColumn(cell[other], cell[row], FIRST + column);
                    shorten(cell[other]);
                }
            }
            int set = rowSet[row];
            rowSet[row] = columnSet[column];
            columnSet[column] = set;
        }

        private void turnRow(long[] row, int at) {
            long below = row[BELOW];
            row[BELOW] = -row[at];
            row[at] = -below;
        }

        private void replaceColumn(long[] row, long[] turned, int at) {
            long factor = row[at];
            row[at] = 0;
            row[BELOW] *= turned[BELOW];
            for (int k = CONSTANT; k < FIRST + columns; k++) {
                row[k] = row[k] * turned[BELOW] + factor * turned[k];
            }
        }

        /** Lowest terms keep the numbers small, however many exchanges there are. */
        private void shorten(long[] row) {
            long factor = row[BELOW];
            for (int k = CONSTANT; k < FIRST + columns && factor != 1; k++) {
                factor = commonFactor(factor, row[k]);
            }
            if (factor > 1) {
                for (int k = BELOW; k < FIRST + columns; k++) {
                    row[k] /= factor;
                }
            }
        }

        /** Keeps a driven row at its bound: the columns that it still hangs on stay 0. */
        private void freeze(int row) {
            for (int column = columns - 1; column >= 0; column--) {
                if (factorOf(row, column) != 0) {
                    removeColumn(column);
                }
            }
        }

        private void removeColumn(int column) {
            for (int next = column + 1; next < columns; next++) {
                columnSet[next - 1] = columnSet[next];
                for (int row = 0; row < rows; row++) {
                    cell[row][FIRST + next - 1] = cell[row][FIRST + next];
                }
            }
            columns--;
        }

        /** Sets whose room can change no more bound nothing from now on. */
        private void releaseFlatRows() {
            for (int row = 0; row < rows; row++) {
                boolean flat = true;
                for (int column = 0; column < columns; column++) {
                    flat = flat && factorOf(row, column) == 0;
                }
                if (flat) {
                    rowSet[row] = 0;
                }
            }
        }

        /**
         * Adds a column by which the bound of all sets that still have room is drawn in: what
         * was a set's room is now its room up to the new bound and that column together.
         */
        private int addDrawingIn() {
            if (columns >= MOST_COLUMNS) {
                return NONE;
            }
            for (int row = 0; row < rows; row++) {
                long sum = rowSet[row] > 0 ? -belowOf(row) : 0;
                for (int column = 0; column < columns; column++) {
                    sum += factorOf(row, column);
                }
                cell[row][FIRST + columns] = sum;
            }
            columnSet[columns] = 0;
            columns++;
            return columns - 1;
        }
    }

    /** The two told shares, and the shares that are found on the board. */
    private static final class Shares {
        // No worth is above it, so no set complains where each side has as much.
        private static final int ENOUGH = 1000;

        private final int[][] given = new int[2][MOST_SIDES];
        private final Board board = new Board();
        private final Fraction[] calmest = {
            new Fraction(), new Fraction(), new Fraction(), new Fraction()};
        private final Fraction strain = new Fraction();
        private boolean calmKnown = false;

        private void restart() {
            for (int side = 0; side < MOST_SIDES; side++) {
                given[0][side] = 0;
                given[1][side] = 0;
            }
            forgetCalm();
        }

        private void forgetCalm() {
            calmKnown = false;
        }

        private int replaceGiven(int share, int side, int v) {
            int was = given[share][side];
            given[share][side] = v;
            return was;
        }

        private int shareOf(int share, int set) {
            int sum = 0;
            for (int side = 0; side < MOST_SIDES; side++) {
                if (has(set, side)) {
                    sum += given[share][side];
                }
            }
            return sum;
        }

        private int complaintOf(Worths worths, int share, int set) {
            return worths.of[set] - shareOf(share, set);
        }

        private int surplusOver(Worths worths, int share, int i, int k) {
            int greatest = BAD_COMPLAINT;
            for (int set = 1; set <= worths.all(); set++) {
                if (has(set, i) && !has(set, k)) {
                    greatest = Math.max(greatest, complaintOf(worths, share, set));
                }
            }
            return greatest;
        }

        private boolean standsEven(Worths worths, int share) {
            if (complaintOf(worths, share, worths.all()) != 0) {
                return false;
            }
            for (int i = 0; i < worths.many; i++) {
                for (int k = i + 1; k < worths.many; k++) {
                    if (surplusOver(worths, share, i, k) != surplusOver(worths, share, k, i)) {
                        return false;
                    }
                }
            }
            return true;
        }

        private int firstBetterSet(Worths worths, int a) {
            for (int set = 1; set <= worths.all(); set++) {
                if (complaintOf(worths, a, set) >= 0 && allHaveMore(worths.many, a, set)) {
                    return set;
                }
            }
            return NONE;
        }

        private boolean allHaveMore(int many, int a, int set) {
            for (int side = 0; side < many; side++) {
                if (has(set, side) && given[a][side] <= given[1 - a][side]) {
                    return false;
                }
            }
            return true;
        }

        /**
         * Lays out the shares without complaints at one where all together have the least.
         * Columns tell how much less than enough each side has; the first rows tell what the
         * sides have, and the next one what all have together.
         */
        private void layLeastPay(Worths worths) {
            int many = worths.many;
            board.restart(many);
            for (int side = 0; side < many; side++) {
                addHaving(many, 0, 1 << side, 0);
            }
            addHaving(many, 0, worths.all(), 0);
            for (int set = 1; set <= worths.all(); set++) {
                addHaving(many, set, set, worths.of[set]);
            }
            board.enterAll();
            board.drive(many, -1);
        }

        /** Whether the least pay that is laid out is just the worth of all: then that is the core. */
        private boolean isWhole(Worths worths) {
            int all = worths.many;
            return board.constantOf(all) == board.belowOf(all) * worths.of[worths.all()];
        }

        private void driveSide(int all, int side, int sign) {
            board.freeze(all);
            board.drive(side, sign);
        }

        private void tellRow(int row, Fraction told) {
            told.put(board.constantOf(row), board.belowOf(row));
        }

        /** A row that tells what a set has above a number. */
        private void addHaving(int many, int name, int set, int above) {
            int row = board.addRow(name, ENOUGH * Integer.bitCount(set) - above);
            for (int side = 0; side < many; side++) {
                board.putFactor(row, side, has(set, side) ? -1 : 0);
            }
        }

        private void tellStrain(Fraction told) {
            told.put(strain.above, strain.below);
        }

        private void tellCalm(int side, Fraction told) {
            told.put(calmest[side].above, calmest[side].below);
        }

        /**
         * Draws in the bound of all complaints as far as it goes, fixes the sets that stop it,
         * and goes on with the others until nothing can change any more.
         */
        private void findCalm(Worths worths) {
            if (calmKnown) {
                return;
            }
            int bound = layWhole(worths);
            board.enterAll();
            boolean first = true;
            // Each time at least one side's share is fixed by the others'.
            for (int turn = 0; turn < MOST_SIDES && board.columns > 0; turn++) {
                board.releaseFlatRows();
                int drawn = board.enter(board.addDrawingIn());
                board.drive(drawn, 1);
                if (first) {
                    long below = board.belowOf(drawn);
                    strain.put(bound * below - board.constantOf(drawn), below);
                    first = false;
                }
                board.freeze(drawn);
            }
            for (int side = 0; side < worths.many; side++) {
                calmest[side].put(board.constantOf(side), board.belowOf(side));
            }
            calmKnown = true;
        }

        /**
         * Lays out the whole shares where no set complains more than one does if the last side
         * has all, at that one. Columns tell what the other sides have of it; the first rows
         * tell what the sides have. Answers that greatest complaint.
         */
        private int layWhole(Worths worths) {
            int many = worths.many;
            int bound = greatestComplaintByLast(worths);
            board.restart(many - 1);
            for (int side = 0; side < many; side++) {
                addWholeHaving(worths, 0, 1 << side, 0);
            }
            for (int set = 1; set < worths.all(); set++) {
                addWholeHaving(worths, set, set, worths.of[set] - bound);
            }
            return bound;
        }

        private int greatestComplaintByLast(Worths worths) {
            int greatest = BAD_COMPLAINT;
            for (int set = 1; set < worths.all(); set++) {
                int having = has(set, worths.many - 1) ? worths.of[worths.all()] : 0;
                greatest = Math.max(greatest, worths.of[set] - having);
            }
            return greatest;
        }

        private void addWholeHaving(Worths worths, int name, int set, int above) {
            int last = worths.many - 1;
            int share = has(set, last) ? worths.of[worths.all()] : 0;
            int row = board.addRow(name, share - above);
            for (int side = 0; side < last; side++) {
                int own = has(set, side) ? 1 : 0;
                int lasts = has(set, last) ? 1 : 0;
                board.putFactor(row, side, own - lasts);
            }
        }

        private long mixInto(long h, int many) {
            long mixed = h;
            for (int share = 0; share < 2; share++) {
                for (int side = 0; side < many; side++) {
                    mixed = mix(mixed, given[share][side]);
                }
            }
            return mixed;
        }
    }

    /** Voters by weights, and the least row of numbers that does the same. */
    private static final class Votes {
        private int many = 0;
        private int quota = 1;
        private final int[] weights = new int[MOST_VOTERS];
        private final int[] load = new int[1 << MOST_VOTERS];

        private final int[] rank = new int[MOST_SAME_VOTERS];
        private final int[] row = new int[MOST_SAME_VOTERS];
        private final int[] rowLoad = new int[1 << MOST_SAME_VOTERS];
        private final int[] found = new int[MOST_SAME_VOTERS];
        private int foundQuota = NONE;
        private boolean sameKnown = false;

        private int allVoters() {
            return (1 << many) - 1;
        }

        private boolean knowsVoter(int voter) {
            return within(voter, 0, many - 1);
        }

        private int addVoter(int v) {
            many++;
            replaceWeight(many - 1, v);
            return many - 1;
        }

        private int replaceWeight(int voter, int v) {
            int was = weights[voter];
            weights[voter] = v;
            addUp(weights, many, load);
            sameKnown = false;
            return was;
        }

        private int replaceQuota(int v) {
            int was = quota;
            quota = v;
            sameKnown = false;
            return was;
        }

        /** What each set weighs by single weights: that of it without its last one, and that. */
        private static void addUp(int[] single, int singles, int[] sums) {
            for (int last = 0; last < singles && last < single.length; last++) {
                for (int set = 1 << last; set < 2 << last && set < sums.length; set++) {
                    sums[set] = sums[set - (1 << last)] + single[last];
                }
            }
        }

        private boolean isWinning(int set) {
            return load[set] >= quota;
        }

        private boolean isTurned(int set, int voter) {
            return !has(set, voter) && !isWinning(set) && isWinning(set | 1 << voter);
        }

        private boolean isLeastSet(int set) {
            if (!isWinning(set)) {
                return false;
            }
            for (int voter = 0; voter < many; voter++) {
                if (has(set, voter) && isWinning(set - (1 << voter))) {
                    return false;
                }
            }
            return true;
        }

        private int leastSets() {
            int sets = 0;
            for (int set = 1; set <= allVoters(); set++) {
                if (isLeastSet(set)) {
                    sets++;
                }
            }
            return sets;
        }

        private int leastSetAt(int index) {
            int ahead = 0;
            for (int set = 1; set <= allVoters(); set++) {
                if (isLeastSet(set)) {
                    if (ahead == index) {
                        return set;
                    }
                    ahead++;
                }
            }
            return NONE;
        }

        private int turnsOf(int voter) {
            int turns = 0;
            for (int set = 0; set <= allVoters(); set++) {
                if (isTurned(set, voter)) {
                    turns++;
                }
            }
            return turns;
        }

        private int pivotsOf(int voter) {
            int pivots = 0;
            for (int set = 0; set <= allVoters(); set++) {
                if (isTurned(set, voter)) {
                    pivots += ordersBehind(Integer.bitCount(set), many);
                }
            }
            return pivots;
        }

        private boolean isBlocking(int voter) {
            return isWinning(allVoters()) && !isWinning(allVoters() - (1 << voter));
        }

        private boolean isIdle(int voter) {
            return partsOfLeastSets(voter) == 0;
        }

        /** The sum over least sets with a voter of 1 by how many, in parts of 1 by 840. */
        private int partsOfLeastSets(int voter) {
            int sum = 0;
            for (int set = 1; set <= allVoters(); set++) {
                if (has(set, voter) && isLeastSet(set)) {
                    sum += PARTS_OF_EIGHT / Math.max(1, Integer.bitCount(set));
                }
            }
            return sum;
        }

        private int tellSame(int what) {
            findSame();
            if (foundQuota == NONE) {
                return NO_ROW;
            }
            return what == NONE ? foundQuota : found[what];
        }

        private void findSame() {
            if (sameKnown) {
                return;
            }
            foundQuota = NONE;
            for (int voter = 0; voter < many; voter++) {
                rank[voter] = turnsOf(voter);
            }
            for (int sum = 0; sum <= MOST_SAME_SUM && foundQuota == NONE; sum++) {
                findSameOfSum(sum);
            }
            sameKnown = true;
        }

        private void findSameOfSum(int sum) {
            for (int voter = 0; voter < many; voter++) {
                row[voter] = 0;
            }
            row[many - 1] = sum;
            boolean more = true;
            // Rows rise, so of like quotas the first one is kept.
            for (int turn = 0; turn < MANY_TURNS && more; turn++) {
                int rowQuota = isRanked() ? quotaOfRow() : NONE;
                if (rowQuota != NONE && (foundQuota == NONE || rowQuota < foundQuota)) {
                    foundQuota = rowQuota;
                    System.arraycopy(row, 0, found, 0, many);
                }
                more = nextRow();
            }
        }

        /** The next row of the same sum: one more goes ahead of the last that has something. */
        private boolean nextRow() {
            int last = many - 1;
            while (last > 0 && row[last] == 0) {
                last--;
            }
            if (last == 0) {
                return false;
            }
            int rest = row[last] - 1;
            row[last] = 0;
            row[last - 1]++;
            row[many - 1] = rest;
            return true;
        }

        /**
         * Whoever turns more sets must have more in the row, and of two who turn as many (so
         * that they can change places) the first has no more in the first row: this spares
         * weighing nearly all rows.
         */
        private boolean isRanked() {
            for (int a = 0; a < many; a++) {
                for (int b = a + 1; b < many; b++) {
                    boolean fits = rank[a] > rank[b] ? row[a] > row[b]
                            : rank[a] < rank[b] ? row[a] < row[b] : row[a] <= row[b];
                    if (!fits) {
                        return false;
                    }
                }
            }
            return true;
        }

        /** The least quota by which the same sets win by the row, or NONE. */
        private int quotaOfRow() {
            addUp(row, many, rowLoad);
            int greatestLosing = 0;
            int leastWinning = MOST_SAME_SUM + 1;
            for (int set = 1; set <= allVoters() && set < rowLoad.length; set++) {
                if (isWinning(set)) {
                    leastWinning = Math.min(leastWinning, rowLoad[set]);
                } else {
                    greatestLosing = Math.max(greatestLosing, rowLoad[set]);
                }
            }
            return greatestLosing < leastWinning ? greatestLosing + 1 : NONE;
        }

        private long mixInto(long h) {
            long mixed = h;
            for (int voter = 0; voter < many; voter++) {
                mixed = mix(mixed, weights[voter]);
            }
            return mix(mixed, quota);
        }
    }

    /** Claims on an estate. */
    private static final class Claims {
        private int many = 0;
        private int estate = 0;
        private final int[] claimed = new int[MOST_CLAIMS];

        private int addClaim(int v) {
            claimed[many] = v;
            many++;
            return many - 1;
        }

        private int replaceEstate(int e) {
            int was = estate;
            estate = e;
            return was;
        }

        private int total() {
            int sum = 0;
            for (int k = 0; k < many; k++) {
                sum += claimed[k];
            }
            return sum;
        }

        private void tellAward(int k, int rule, Fraction told) {
            switch (rule) {
                case 0:
                    told.put((long) claimed[k] * estate, Math.max(1, total()));
                    break;
                case 1:
                    tellEven(k, estate, told);
                    break;
                case 2:
                    // Losses are shared out as gifts are: what is missing goes round evenly.
                    tellLessEven(k, total() - estate, 1, told);
                    break;
                case 3:
                    tellHalves(k, told);
                    break;
                default:
                    told.put(takenInOrders(k), ordersOf(many));
            }
        }

        private void tellEven(int k, int amount, Fraction told) {
            int open = openBy(amount);
            told.put(evenTimesOpen(k, amount, open), open);
        }

        /** The claim less what even giving by claims parted so often gives of an amount. */
        private void tellLessEven(int k, int amount, int parted, Fraction told) {
            int open = openBy(amount);
            int whole = claimed[k] * open * parted;
            told.put(whole - evenTimesOpen(k, amount, open), (long) open * parted);
        }

        /** Even giving of an amount by half claims is half that of twice the amount by all. */
        private void tellHalves(int k, Fraction told) {
            if (2 * estate > total()) {
                tellLessEven(k, 2 * (total() - estate), 2, told);
                return;
            }
            int open = openBy(2 * estate);
            told.put(evenTimesOpen(k, 2 * estate, open), 2L * open);
        }

        /** Whether even giving of an amount comes up to a claim. */
        private boolean isMet(int k, int amount) {
            int sum = 0;
            for (int other = 0; other < many; other++) {
                sum += Math.min(claimed[other], claimed[k]);
            }
            return sum <= amount;
        }

        /** How many claims even giving leaves open; 1 if none, so that it can be divided by. */
        private int openBy(int amount) {
            int open = 0;
            for (int k = 0; k < many; k++) {
                if (!isMet(k, amount)) {
                    open++;
                }
            }
            return Math.max(1, open);
        }

        private int evenTimesOpen(int k, int amount, int open) {
            if (isMet(k, amount)) {
                return claimed[k] * open;
            }
            int rest = amount;
            for (int other = 0; other < many; other++) {
                if (isMet(other, amount)) {
                    rest -= claimed[other];
                }
            }
            return rest;
        }

        private int takenInOrders(int k) {
            int sum = 0;
            for (int ahead = 0; ahead < 1 << many; ahead++) {
                if (!has(ahead, k)) {
                    int left = Math.max(0, estate - claimedBy(ahead));
                    sum += ordersBehind(Integer.bitCount(ahead), many) * Math.min(claimed[k], left);
                }
            }
            return sum;
        }

        private int claimedBy(int set) {
            int sum = 0;
            for (int k = 0; k < many; k++) {
                if (has(set, k)) {
                    sum += claimed[k];
                }
            }
            return sum;
        }

        private long mixInto(long h) {
            long mixed = h;
            for (int k = 0; k < many; k++) {
                mixed = mix(mixed, claimed[k]);
            }
            return mix(mixed, estate);
        }
    }

    /** A tree of places; a way bears the number of the place that hangs on it. */
    private static final class Ways {
        private int places = 1;
        private final int[] hangsOn = new int[MOST_PLACES];
        private final int[] costs = new int[MOST_PLACES];
        private final int[] waysTo = new int[MOST_PLACES];
        private int users = 0;
        private final int[] userAt = new int[MOST_USERS];
        private final int[] toldPay = new int[MOST_USERS];

        private boolean knowsPlace(int p) {
            return within(p, 0, places - 1);
        }

        private boolean knowsUser(int u) {
            return within(u, 0, users - 1);
        }

        private int allUsers() {
            return (1 << users) - 1;
        }

        private int addPlace(int on, int cost) {
            hangsOn[places] = on;
            costs[places] = cost;
            waysTo[places] = waysTo[on] | 1 << places;
            places++;
            return places - 1;
        }

        private int addUser(int p) {
            userAt[users] = p;
            users++;
            return users - 1;
        }

        private int replacePay(int u, int v) {
            int was = toldPay[u];
            toldPay[u] = v;
            return was;
        }

        private int waysOfUser(int u) {
            int p = userAt[u];
            return knowsPlace(p) ? waysTo[p] : 0;
        }

        private int costOf(int set) {
            int used = 0;
            for (int u = 0; u < users; u++) {
                if (has(set, u)) {
                    used |= waysOfUser(u);
                }
            }
            int sum = 0;
            for (int p = 1; p < places; p++) {
                if (has(used, p)) {
                    sum += costs[p];
                }
            }
            return sum;
        }

        private int usersOfWay(int p) {
            int sum = 0;
            for (int u = 0; u < users; u++) {
                if (has(waysOfUser(u), p)) {
                    sum++;
                }
            }
            return sum;
        }

        /** What a user's ways cost by how many have them, in parts of 1 by 840. */
        private int partsOfWays(int u) {
            int sum = 0;
            for (int p = 1; p < places; p++) {
                if (has(waysOfUser(u), p)) {
                    sum += costs[p] * (PARTS_OF_EIGHT / Math.max(1, usersOfWay(p)));
                }
            }
            return sum;
        }

        private int firstOverpaying() {
            for (int set = 1; set <= allUsers(); set++) {
                if (paysOf(set) > costOf(set)) {
                    return set;
                }
            }
            return NONE;
        }

        private int paysOf(int set) {
            int sum = 0;
            for (int u = 0; u < users; u++) {
                if (has(set, u)) {
                    sum += toldPay[u];
                }
            }
            return sum;
        }

        private long mixInto(long h) {
            long mixed = h;
            for (int p = 1; p < places; p++) {
                mixed = mix(mix(mixed, hangsOn[p]), costs[p]);
            }
            for (int u = 0; u < users; u++) {
                mixed = mix(mix(mixed, userAt[u]), toldPay[u]);
            }
            return mixed;
        }
    }

    /** A market of pairs. */
    private static final class Trade {
        // One thing of each seller, and behind them a second one of a single seller.
        private static final int THINGS = MOST_TRADERS + 1;

        private int buyers = 0;
        private int sellers = 0;
        private final int[][] gains = new int[MOST_TRADERS][MOST_TRADERS];
        private final int[] prices = new int[MOST_TRADERS];
        // rest[b][gone]: the greatest sum of the buyers from b on when those things are gone.
        private final int[][] rest = new int[MOST_TRADERS + 1][1 << THINGS];

        private boolean knowsBuyer(int b) {
            return within(b, 0, buyers - 1);
        }

        private boolean knowsSeller(int s) {
            return within(s, 0, sellers - 1);
        }

        private void restart(int newBuyers, int newSellers) {
            buyers = newBuyers;
            sellers = newSellers;
            for (int s = 0; s < MOST_TRADERS; s++) {
                prices[s] = 0;
                for (int b = 0; b < MOST_TRADERS; b++) {
                    gains[b][s] = 0;
                }
            }
        }

        private int replaceGain(int b, int s, int v) {
            int was = gains[b][s];
            gains[b][s] = v;
            return was;
        }

        private int replacePrice(int s, int v) {
            int was = prices[s];
            prices[s] = v;
            return was;
        }

        private int sellerOfThing(int thing, int twice) {
            return thing < MOST_TRADERS ? thing : twice;
        }

        private void findRests(int twice) {
            for (int gone = 0; gone < 1 << THINGS; gone++) {
                rest[buyers][gone] = 0;
            }
            for (int b = buyers - 1; b >= 0; b--) {
                for (int gone = 0; gone < 1 << THINGS; gone++) {
                    rest[b][gone] = bestFrom(b, gone, twice);
                }
            }
        }

        private int bestFrom(int b, int gone, int twice) {
            int best = rest[b + 1][gone];
            for (int thing = 0; thing < THINGS; thing++) {
                int s = sellerOfThing(thing, twice);
                if (knowsSeller(s) && !has(gone, thing)) {
                    best = Math.max(best, gains[b][s] + rest[b + 1][gone | 1 << thing]);
                }
            }
            return best;
        }

        private int greatestSum() {
            findRests(NONE);
            return rest[0][0];
        }

        /** Goes the first best row by buyers: nothing if that is as good, else the first seller. */
        private int sellerOf(int buyer) {
            findRests(NONE);
            int gone = 0;
            int chosen = NONE;
            for (int b = 0; b <= buyer && b < buyers; b++) {
                chosen = firstBest(b, gone);
                gone |= chosen == NONE ? 0 : 1 << chosen;
            }
            return chosen;
        }

        private int firstBest(int b, int gone) {
            if (rest[b + 1][gone] == rest[b][gone]) {
                return NONE;
            }
            for (int s = 0; s < sellers; s++) {
                if (!has(gone, s) && gains[b][s] + rest[b + 1][gone | 1 << s] == rest[b][gone]) {
                    return s;
                }
            }
            return NONE;
        }

        private int cheapPrice(int s) {
            int once = greatestSum();
            findRests(s);
            return rest[0][0] - once;
        }

        private int dearPrice(int s) {
            return greatestSum() - rest[0][1 << s];
        }

        private boolean pricesFit() {
            int sum = 0;
            for (int s = 0; s < sellers; s++) {
                sum += prices[s];
            }
            for (int b = 0; b < buyers; b++) {
                sum += greatestLessPrice(b);
            }
            return sum == greatestSum();
        }

        private int greatestLessPrice(int b) {
            int greatest = 0;
            for (int s = 0; s < sellers; s++) {
                greatest = Math.max(greatest, gains[b][s] - prices[s]);
            }
            return greatest;
        }

        private long mixInto(long h) {
            long mixed = h;
            for (int b = 0; b < buyers; b++) {
                for (int s = 0; s < sellers; s++) {
                    mixed = mix(mixed, gains[b][s]);
                }
            }
            for (int s = 0; s < sellers; s++) {
                mixed = mix(mixed, prices[s]);
            }
            return mixed;
        }
    }
}
