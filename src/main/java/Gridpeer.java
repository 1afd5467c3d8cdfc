/** Neighbours along one feeder who sell power to one another, quarter hour by quarter hour. */
public final class Gridpeer {
    public static final int TRADED = 0, CUT = 1, STORED = 2, TAKEN = 3, BOUGHT = 4, SOLD = 5;

    private static final int HOUSES = 6;
    private static final int STRETCHES = 5;
    private static final int WAYS = 6;
    private static final int MOST_UNITS = 50;
    private static final int FIRST_PRICE = 10;
    private static final int MOST_PRICE = 100;
    private static final int FIRST_LIMIT = 100;
    private static final int MOST_LIMIT = 300;
    private static final int FIRST_SELLS = 30;
    private static final int FIRST_BUYS = 4;
    private static final int FIRST_PART = 20;
    private static final int MOST_RENT = 100;
    private static final int WEAR = 2;
    private static final int LOW_SHARE = 4;
    private static final int MOST_QUARTERS = 500;
    private static final int NOBODY = -1;
    // Every trade leaves its seller without units or its buyer without need.
    private static final int MOST_TRADES = HOUSES;
    // Every pass but the last cuts a unit, and no clearing trades as many units.
    private static final int MOST_PASSES = 1000;

    // Who is no member has forecast, meter, part and store 0, so that clearing passes it by.
    private final boolean[] members = new boolean[HOUSES];
    private final int[] forecasts = new int[HOUSES];
    private final int[] meters = new int[HOUSES];
    private final int[] prices = new int[HOUSES];
    private final int[] parts = new int[HOUSES];
    private final int[] stores = new int[HOUSES];
    private final int[] bills = new int[HOUSES];
    // Units still to be given away (above 0) or still needed (below 0) while clearing.
    private final int[] lefts = new int[HOUSES];
    private final int[] limits = new int[STRETCHES];
    private final int[] flows = new int[STRETCHES];
    private final int[] ways = new int[WAYS];
    private final TradeBook book = new TradeBook();
    private int sells = FIRST_SELLS;
    private int buys = FIRST_BUYS;
    private int pool = 0;
    private int supplied = 0;
    private int quarter = 0;

    public Gridpeer() {
        for (int house = 0; house < HOUSES; house++) {
            members[house] = true;
            prices[house] = FIRST_PRICE;
            parts[house] = FIRST_PART;
        }
        for (int stretch = 0; stretch < STRETCHES; stretch++) {
            limits[stretch] = FIRST_LIMIT;
        }
    }

    // ---- telling

    public int forecast(int house, int units)
            throws IndexOutOfBoundsException, IllegalArgumentException, IllegalStateException {
        checkHouse(house);
        checkRange(units, -MOST_UNITS, MOST_UNITS);
        checkMember(house);
        int before = forecasts[house];
        forecasts[house] = units;
        return before;
    }

    public int meter(int house, int units)
            throws IndexOutOfBoundsException, IllegalArgumentException, IllegalStateException {
        checkHouse(house);
        checkRange(units, -MOST_UNITS, MOST_UNITS);
        checkMember(house);
        int before = meters[house];
        meters[house] = units;
        return before;
    }

    public int setPrice(int house, int price) throws IndexOutOfBoundsException, IllegalArgumentException {
        checkHouse(house);
        checkRange(price, 0, MOST_PRICE);
        int before = prices[house];
        prices[house] = price;
        return before;
    }

    public int setLimit(int stretch, int units) throws IndexOutOfBoundsException, IllegalArgumentException {
        checkStretch(stretch);
        checkRange(units, 0, MOST_LIMIT);
        int before = limits[stretch];
        limits[stretch] = units;
        return before;
    }

    public void setSupplier(int sells, int buys) throws IllegalArgumentException {
        checkRange(sells, 1, MOST_PRICE);
        checkRange(buys, 0, sells);
        this.sells = sells;
        this.buys = buys;
    }

    public int rent(int house, int other, int units)
            throws IndexOutOfBoundsException, IllegalArgumentException, IllegalStateException {
        checkHouse(house);
        checkHouse(other);
        if (house == other) {
            throw new IllegalArgumentException("both houses are the same");
        }
        checkRange(units, 1, MOST_RENT);
        checkMember(house);
        checkMember(other);
        if (parts[house] - units < stores[house]) {
            throw new IllegalStateException("less room than stored");
        }
        parts[house] -= units;
        parts[other] += units;
        return parts[other];
    }

    public int leave(int house) throws IndexOutOfBoundsException, IllegalStateException {
        checkHouse(house);
        checkMember(house);
        int worth = stores[house] * buys;
        payPool(house, -worth);
        members[house] = false;
        forecasts[house] = 0;
        meters[house] = 0;
        parts[house] = 0;
        stores[house] = 0;
        return worth;
    }

    // ---- clearing

    public int clear() throws IllegalStateException {
        if (quarter >= MOST_QUARTERS) {
            throw new IllegalStateException("500 quarter hours were cleared");
        }
        beginClearing();
        matchBuyers();
        cutOverLimits();
        countTrades();
        for (int house = 0; house < HOUSES; house++) {
            settleTrades(house);
            useBattery(house);
            settleWithSupplier(house);
            payPool(house, Math.abs(meters[house] - forecasts[house]));
        }
        beginNextQuarter();
        return ways[TRADED];
    }

    public int quarter() {
        return quarter;
    }

    public int mostTradable() {
        // The most that can flow is the least that any set of buyers lets through (max flow, min cut).
        int most = boundBySet(0);
        for (int set = 1; set < 1 << HOUSES; set++) {
            most = Math.min(most, boundBySet(set));
        }
        return most;
    }

    // ---- the last clearing

    public int trades() {
        return book.count;
    }

    public int ofTrade(int trade, int what) throws IndexOutOfBoundsException {
        if (trade < 0 || trade >= book.count) {
            throw new IndexOutOfBoundsException("no such trade");
        }
        switch (what) {
            case 0:
                return book.sellers[trade];
            case 1:
                return book.buyers[trade];
            case 2:
                return book.units[trade];
            case 3:
                return book.prices[trade];
            default:
                throw new IndexOutOfBoundsException("no such what");
        }
    }

    public int went(int way) throws IndexOutOfBoundsException {
        if (way < 0 || way >= WAYS) {
            throw new IndexOutOfBoundsException("no such way");
        }
        return ways[way];
    }

    public int flow(int stretch) throws IndexOutOfBoundsException {
        checkStretch(stretch);
        return flows[stretch];
    }

    // ---- houses

    public boolean isMember(int house) throws IndexOutOfBoundsException {
        checkHouse(house);
        return members[house];
    }

    public int stored(int house) throws IndexOutOfBoundsException {
        checkHouse(house);
        return stores[house];
    }

    public int part(int house) throws IndexOutOfBoundsException {
        checkHouse(house);
        return parts[house];
    }

    public int bill(int house) throws IndexOutOfBoundsException {
        checkHouse(house);
        return bills[house];
    }

    public int pool() {
        return pool;
    }

    public int supplied() {
        return supplied;
    }

    // ---- looking at arguments

    private static void checkHouse(int house) {
        if (house < 0 || house >= HOUSES) {
            throw new IndexOutOfBoundsException("no such house");
        }
    }

    private static void checkStretch(int stretch) {
        if (stretch < 0 || stretch >= STRETCHES) {
            throw new IndexOutOfBoundsException("no such stretch");
        }
    }

    private static void checkRange(int value, int least, int most) {
        if (value < least || value > most) {
            throw new IllegalArgumentException("out of range");
        }
    }

    private void checkMember(int house) {
        if (!members[house]) {
            throw new IllegalStateException("no member");
        }
    }

    // ---- steps of a clearing

    private void beginClearing() {
        book.empty();
        for (int way = 0; way < WAYS; way++) {
            ways[way] = 0;
        }
        for (int house = 0; house < HOUSES; house++) {
            lefts[house] = meters[house];
        }
    }

    private void beginNextQuarter() {
        for (int house = 0; house < HOUSES; house++) {
            forecasts[house] = 0;
            meters[house] = 0;
        }
        quarter++;
    }

    private void matchBuyers() {
        for (int rank = 0; rank < HOUSES; rank++) {
            for (int house = 0; house < HOUSES; house++) {
                if (lefts[house] < 0 && rankOf(house) == rank) {
                    serveBuyer(house);
                }
            }
        }
    }

    /** How many houses stand before this one by falling prices and then by rising numbers. */
    private int rankOf(int house) {
        int rank = 0;
        for (int other = 0; other < HOUSES; other++) {
            if (prices[other] > prices[house] || prices[other] == prices[house] && other < house) {
                rank++;
            }
        }
        return rank;
    }

    private void serveBuyer(int buyer) {
        for (int round = 0; round < HOUSES && lefts[buyer] < 0; round++) {
            int seller = bestSeller(buyer);
            if (seller < 0) {
                return;
            }
            int units = Math.min(lefts[seller], -lefts[buyer]);
            lefts[seller] -= units;
            lefts[buyer] += units;
            book.add(seller, buyer, units, (prices[seller] + prices[buyer]) / 2);
        }
    }

    private int bestSeller(int buyer) {
        int best = NOBODY;
        for (int house = 0; house < HOUSES; house++) {
            if (lefts[house] > 0 && prices[house] <= prices[buyer]
                    && (best < 0 || isBetterSeller(house, best, buyer))) {
                best = house;
            }
        }
        return best;
    }

    private boolean isBetterSeller(int house, int best, int buyer) {
        if (prices[house] != prices[best]) {
            return prices[house] < prices[best];
        }
        return Math.abs(house - buyer) < Math.abs(best - buyer);
    }

    private void cutOverLimits() {
        boolean hasCut = true;
        for (int pass = 0; pass < MOST_PASSES && hasCut; pass++) {
            hasCut = false;
            for (int stretch = STRETCHES - 1; stretch >= 0; stretch--) {
                if (book.cutOver(stretch, limits[stretch])) {
                    hasCut = true;
                }
            }
        }
    }

    private void countTrades() {
        for (int trade = 0; trade < book.count; trade++) {
            ways[TRADED] += book.units[trade];
            ways[CUT] += book.cuts[trade];
        }
        pool -= ways[CUT];
        for (int stretch = 0; stretch < STRETCHES; stretch++) {
            flows[stretch] = book.flowOver(stretch);
        }
    }

    private void settleTrades(int house) {
        for (int trade = 0; trade < book.count; trade++) {
            int sum = book.units[trade] * book.prices[trade];
            if (book.sellers[trade] == house) {
                bills[house] -= sum + book.cuts[trade];
                lefts[house] += book.cuts[trade];
            }
            if (book.buyers[trade] == house) {
                bills[house] += sum;
                lefts[house] -= book.cuts[trade];
            }
        }
    }

    private void useBattery(int house) {
        if (lefts[house] > 0) {
            putIn(house, Math.min(lefts[house], parts[house] - stores[house]));
        } else {
            takeOut(house, Math.min(-lefts[house], stores[house]));
        }
    }

    private void putIn(int house, int units) {
        lefts[house] -= units;
        stores[house] += units;
        ways[STORED] += units;
    }

    private void takeOut(int house, int units) {
        if (units <= 0) {
            return;
        }
        lefts[house] += units;
        stores[house] -= units;
        ways[TAKEN] += units;
        int missing = Math.max(0, parts[house] / LOW_SHARE - stores[house]);
        payPool(house, WEAR * units + missing);
    }

    private void settleWithSupplier(int house) {
        int left = lefts[house];
        int sum = left < 0 ? -left * sells : -left * buys;
        bills[house] += sum;
        supplied += sum;
        if (left < 0) {
            ways[BOUGHT] -= left;
        } else {
            ways[SOLD] += left;
        }
    }

    private void payPool(int house, int sum) {
        bills[house] += sum;
        pool += sum;
    }

    // ---- the most that could be traded

    /** What buyers outside the set need, and what sellers have from whom a buyer in the set may take. */
    private int boundBySet(int set) {
        int bound = 0;
        for (int house = 0; house < HOUSES; house++) {
            if (meters[house] < 0 && !isInSet(house, set)) {
                bound -= meters[house];
            }
            if (meters[house] > 0 && sellsToSet(house, set)) {
                bound += meters[house];
            }
        }
        return bound;
    }

    private boolean sellsToSet(int seller, int set) {
        for (int house = 0; house < HOUSES; house++) {
            if (meters[house] < 0 && isInSet(house, set) && prices[seller] <= prices[house]) {
                return true;
            }
        }
        return false;
    }

    private static boolean isInSet(int house, int set) {
        return (set >> house & 1) != 0;
    }

    /** The trades of one clearing, in the order in which they were made. */
    private static final class TradeBook {
        private final int[] sellers = new int[MOST_TRADES];
        private final int[] buyers = new int[MOST_TRADES];
        private final int[] units = new int[MOST_TRADES];
        private final int[] cuts = new int[MOST_TRADES];
        private final int[] prices = new int[MOST_TRADES];
        private int count = 0;

        private void empty() {
            count = 0;
        }

        private void add(int seller, int buyer, int traded, int price) {
            if (count >= MOST_TRADES) {
                return;
            }
            sellers[count] = seller;
            buyers[count] = buyer;
            units[count] = traded;
            cuts[count] = 0;
            prices[count] = price;
            count++;
        }

        private int flowOver(int stretch) {
            int sum = 0;
            for (int trade = 0; trade < count; trade++) {
                sum += direction(sellers[trade], buyers[trade], stretch) * units[trade];
            }
            return sum;
        }

        /** Cuts the latest trades that go with the flow, down to the limit; tells whether it cut any. */
        private boolean cutOver(int stretch, int limit) {
            int sum = flowOver(stretch);
            int above = Math.abs(sum) - limit;
            if (above <= 0) {
                return false;
            }
            int with = sum > 0 ? 1 : -1;
            for (int trade = count - 1; trade >= 0 && above > 0; trade--) {
                if (direction(sellers[trade], buyers[trade], stretch) == with) {
                    int lost = Math.min(units[trade], above);
                    units[trade] -= lost;
                    cuts[trade] += lost;
                    above -= lost;
                }
            }
            return true;
        }

        /** 1 if the way over the stretch leads to higher numbers, -1 if to lower ones, 0 if not over it. */
        private static int direction(int seller, int buyer, int stretch) {
            if (seller <= stretch && stretch < buyer) {
                return 1;
            }
            if (buyer <= stretch && stretch < seller) {
                return -1;
            }
            return 0;
        }
    }
}
