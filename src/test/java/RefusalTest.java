import java.util.function.ToIntFunction;

/** Every refused call, sentence by sentence: the exception that is due, and nothing changed by it. */
public final class RefusalTest {
    private static final Class<?> INDEX = IndexOutOfBoundsException.class;
    private static final Class<?> ARGUMENT = IllegalArgumentException.class;
    private static final Class<?> STATE = IllegalStateException.class;
    private static final int LOWEST = Integer.MIN_VALUE;
    private static final int HIGHEST = Integer.MAX_VALUE;
    private static final int[] NO_HOUSES = {-1, 6, -6, 262, LOWEST, LOWEST + 1, HIGHEST};
    private static final int[] NO_STRETCHES = {-1, 5, 6, 261, LOWEST, LOWEST + 1, HIGHEST};
    private static final int[] NO_UNITS = {-51, 51, 256, LOWEST, LOWEST + 50, HIGHEST};
    private static final String RICH = Grids.wholeOf(Grids.rich());

    public static void main(String[] args) {
        forecastOfNoHouse();
        forecastOutOfRange();
        forecastOfNoMember();
        meterOfNoHouse();
        meterOutOfRange();
        meterOfNoMember();
        setPriceOfNoHouse();
        setPriceOutOfRange();
        setLimitOfNoStretch();
        setLimitOutOfRange();
        supplierSellsOutOfRange();
        supplierBuysOutOfRange();
        rentOfNoHouse();
        rentToItself();
        rentOutOfRange();
        rentOfNoMember();
        rentOfWhatIsStored();
        rentOfMoreThanThePart();
        leaveOfNoHouse();
        leaveOfNoMember();
        clearBehindFiveHundred();
        ofTradeOfNoTrade();
        ofTradeOfNoWhat();
        wentOfNoWay();
        flowOfNoStretch();
        isMemberOfNoHouse();
        storedOfNoHouse();
        partOfNoHouse();
        billOfNoHouse();
        firstNamedIsThrown();
        refusedCallsBetweenOthersChangeNothing();
        Check.end();
    }

    /** Refuses the call on an object that holds something of everything, where house 5 has left. */
    private static void refused(String call, Class<?> want, ToIntFunction<Gridpeer> body) {
        Gridpeer grid = Grids.rich();
        Check.thrown(call, want, () -> body.applyAsInt(grid));
        Check.due(call + " leaves all as it was", Grids.wholeOf(grid).equals(RICH), true);
    }

    private static void forecastOfNoHouse() {
        Check.sentence("2: IndexOutOfBoundsException if there is no such house");
        for (int house : NO_HOUSES) {
            refused("forecast(" + house + ", 1)", INDEX, grid -> grid.forecast(house, 1));
        }
    }

    private static void forecastOutOfRange() {
        Check.sentence("2: IllegalArgumentException if units is out of range");
        for (int units : NO_UNITS) {
            refused("forecast(0, " + units + ")", ARGUMENT, grid -> grid.forecast(0, units));
        }
    }

    private static void forecastOfNoMember() {
        Check.sentence("2: IllegalStateException if it is no member");
        for (int units : new int[] {-50, 0, 1, 50}) {
            refused("forecast(5, " + units + ")", STATE, grid -> grid.forecast(5, units));
        }
    }

    private static void meterOfNoHouse() {
        Check.sentence("3: IndexOutOfBoundsException if there is no such house");
        for (int house : NO_HOUSES) {
            refused("meter(" + house + ", 1)", INDEX, grid -> grid.meter(house, 1));
        }
    }

    private static void meterOutOfRange() {
        Check.sentence("3: IllegalArgumentException if units is out of range");
        for (int units : NO_UNITS) {
            refused("meter(0, " + units + ")", ARGUMENT, grid -> grid.meter(0, units));
        }
    }

    private static void meterOfNoMember() {
        Check.sentence("3: IllegalStateException if it is no member");
        for (int units : new int[] {-50, 0, 1, 50}) {
            refused("meter(5, " + units + ")", STATE, grid -> grid.meter(5, units));
        }
    }

    private static void setPriceOfNoHouse() {
        Check.sentence("4: IndexOutOfBoundsException if there is no such house");
        for (int house : NO_HOUSES) {
            refused("setPrice(" + house + ", 1)", INDEX, grid -> grid.setPrice(house, 1));
        }
    }

    private static void setPriceOutOfRange() {
        Check.sentence("4: IllegalArgumentException if price is out of range");
        for (int price : new int[] {-1, 101, 256, LOWEST, LOWEST + 50, HIGHEST}) {
            refused("setPrice(0, " + price + ")", ARGUMENT, grid -> grid.setPrice(0, price));
            refused("setPrice(5, " + price + ")", ARGUMENT, grid -> grid.setPrice(5, price));
        }
    }

    private static void setLimitOfNoStretch() {
        Check.sentence("5: IndexOutOfBoundsException if there is no such stretch");
        for (int stretch : NO_STRETCHES) {
            refused("setLimit(" + stretch + ", 1)", INDEX, grid -> grid.setLimit(stretch, 1));
        }
    }

    private static void setLimitOutOfRange() {
        Check.sentence("5: IllegalArgumentException if units is out of range");
        for (int units : new int[] {-1, 301, 512, LOWEST, LOWEST + 50, HIGHEST}) {
            refused("setLimit(0, " + units + ")", ARGUMENT, grid -> grid.setLimit(0, units));
            refused("setLimit(4, " + units + ")", ARGUMENT, grid -> grid.setLimit(4, units));
        }
    }

    private static int supplier(Gridpeer grid, int sells, int buys) {
        grid.setSupplier(sells, buys);
        return 0;
    }

    private static void supplierSellsOutOfRange() {
        Check.sentence("6: IllegalArgumentException if sells is out of range");
        for (int sells : new int[] {0, -1, 101, 256, LOWEST, HIGHEST}) {
            refused("setSupplier(" + sells + ", 0)", ARGUMENT, grid -> supplier(grid, sells, 0));
            refused("setSupplier(" + sells + ", same)", ARGUMENT, grid -> supplier(grid, sells, sells));
        }
    }

    private static void supplierBuysOutOfRange() {
        Check.sentence("6: IllegalArgumentException if buys is out of range");
        int[][] pairs = {
            {50, -1}, {50, 51}, {1, 2}, {1, -1}, {99, 100}, {100, 101}, {50, LOWEST}, {50, HIGHEST},
        };
        for (int[] pair : pairs) {
            refused("setSupplier(" + pair[0] + ", " + pair[1] + ")", ARGUMENT,
                    grid -> supplier(grid, pair[0], pair[1]));
        }
    }

    private static void rentOfNoHouse() {
        Check.sentence("7: IndexOutOfBoundsException if there is no such house or other");
        for (int house : NO_HOUSES) {
            refused("rent(" + house + ", 1, 1)", INDEX, grid -> grid.rent(house, 1, 1));
            refused("rent(1, " + house + ", 1)", INDEX, grid -> grid.rent(1, house, 1));
            refused("rent(" + house + ", same, 1)", INDEX, grid -> grid.rent(house, house, 1));
        }
    }

    private static void rentToItself() {
        Check.sentence("7: IllegalArgumentException if both are the same");
        for (int house = 0; house < 5; house++) {
            int same = house;
            refused("rent(" + house + ", same, 1)", ARGUMENT, grid -> grid.rent(same, same, 1));
        }
    }

    private static void rentOutOfRange() {
        Check.sentence("7: IllegalArgumentException if units is out of range");
        for (int units : new int[] {0, -1, 101, 257, LOWEST, HIGHEST}) {
            refused("rent(2, 3, " + units + ")", ARGUMENT, grid -> grid.rent(2, 3, units));
        }
    }

    private static void rentOfNoMember() {
        Check.sentence("7: IllegalStateException if one of both is no member");
        refused("rent(5, 2, 1)", STATE, grid -> grid.rent(5, 2, 1));
        refused("rent(2, 5, 1)", STATE, grid -> grid.rent(2, 5, 1));
        Gridpeer two = Grids.rich();
        two.leave(4);
        Check.badState("rent(4, 5, 1), both no members", () -> two.rent(4, 5, 1));
        Check.badState("rent(5, 4, 100), both no members", () -> two.rent(5, 4, 100));
    }

    private static void rentOfWhatIsStored() {
        Check.sentence("7: IllegalStateException if the house would have less room than it has stored");
        for (int stored : new int[] {1, 7, 19, 20}) {
            Gridpeer grid = Grids.withStore(2, stored);
            String before = Check.stateOf(grid);
            Check.badState("rent of one too many", () -> grid.rent(2, 3, 21 - stored));
            Check.badState("rent of 100", () -> grid.rent(2, 3, 100));
            Check.unchanged("rent of one too many", before, grid);
            if (stored < 20) {
                Check.due("rent of the very room", grid.rent(2, 3, 20 - stored), 40 - stored);
            }
            Check.badState("rent of one more", () -> grid.rent(2, 3, 1));
            Check.due("part(2), full", grid.part(2), stored);
            Check.due("stored(2), not rented along", grid.stored(2), stored);
            Check.due("stored(3)", grid.stored(3), 0);
        }
    }

    private static void rentOfMoreThanThePart() {
        Check.sentence("7: a part of its part");
        Gridpeer grid = new Gridpeer();
        Check.badState("rent(0, 1, 21) of 20", () -> grid.rent(0, 1, 21));
        Check.due("rent(0, 1, 20) of 20", grid.rent(0, 1, 20), 40);
        Check.badState("rent(0, 1, 1) of 0", () -> grid.rent(0, 1, 1));
        Check.badState("rent(1, 0, 41) of 40", () -> grid.rent(1, 0, 41));
        Check.due("rent(1, 0, 40) of 40", grid.rent(1, 0, 40), 40);
        Check.due("part(1)", grid.part(1), 0);
    }

    private static void leaveOfNoHouse() {
        Check.sentence("8: IndexOutOfBoundsException if there is no such house");
        for (int house : NO_HOUSES) {
            refused("leave(" + house + ")", INDEX, grid -> grid.leave(house));
        }
    }

    private static void leaveOfNoMember() {
        Check.sentence("8: IllegalStateException if it is no member");
        refused("leave(5)", STATE, grid -> grid.leave(5));
    }

    /**
     * 500 quarter hours were cleared, in the last one house 0 sold 4 of its 9 units to house 1, and house 2 told
     * 5 for the next one; clear was refused twice then. That is 505 calls: the next seven answers are promised.
     */
    private static Gridpeer behindRefusedClear() {
        Gridpeer grid = new Gridpeer();
        for (int cleared = 0; cleared < 499; cleared++) {
            grid.clear();
        }
        grid.meter(0, 9);
        grid.meter(1, -4);
        grid.clear();
        grid.meter(2, 5);
        Check.badState("clear() for the 501st time", grid::clear);
        Check.badState("clear() once more", grid::clear);
        return grid;
    }

    private static void clearBehindFiveHundred() {
        Check.sentence("9: IllegalStateException if 500 were cleared");
        Gridpeer last = behindRefusedClear();
        Check.due("quarter()", last.quarter(), 500);
        Check.due("trades()", last.trades(), 1);
        Check.due("ofTrade(0, 2)", last.ofTrade(0, 2), 4);
        Check.due("went(TRADED)", last.went(Gridpeer.TRADED), 4);
        Check.due("went(STORED)", last.went(Gridpeer.STORED), 5);
        Check.due("flow(0)", last.flow(0), 4);
        Check.due("meter(2, 0)", last.meter(2, 0), 5);
        int[] bills = {9 - 40, 40 + 4, 0, 0, 0, 0};
        for (int house = 0; house < 6; house++) {
            Gridpeer owed = behindRefusedClear();
            Check.due("bill(" + house + ")", owed.bill(house), bills[house]);
            Check.due("stored(" + house + ")", owed.stored(house), house == 0 ? 5 : 0);
            Check.due("part(" + house + ")", owed.part(house), 20);
            Check.due("isMember(" + house + ")", owed.isMember(house), true);
            Check.due("pool()", owed.pool(), 9 + 4);
            Check.due("supplied()", owed.supplied(), 0);
            Check.due("forecast(" + house + ", 1)", owed.forecast(house, 1), 0);
        }
    }

    private static void ofTradeOfNoTrade() {
        Check.sentence("13: IndexOutOfBoundsException if there is no such trade");
        int trades = Grids.rich().trades();
        for (int trade : new int[] {-1, trades, trades + 1, 5, 6, 7, LOWEST, HIGHEST}) {
            refused("ofTrade(" + trade + ", 0)", INDEX, grid -> grid.ofTrade(trade, 0));
            refused("ofTrade(" + trade + ", 3)", INDEX, grid -> grid.ofTrade(trade, 3));
        }
    }

    private static void ofTradeOfNoWhat() {
        Check.sentence("13: IndexOutOfBoundsException if there is no such what");
        for (int what : new int[] {-1, 4, 5, 256, LOWEST, HIGHEST}) {
            refused("ofTrade(0, " + what + ")", INDEX, grid -> grid.ofTrade(0, what));
            refused("ofTrade(-1, " + what + "), neither trade nor what", INDEX, grid -> grid.ofTrade(-1, what));
        }
    }

    private static void wentOfNoWay() {
        Check.sentence("14: IndexOutOfBoundsException if there is no such way");
        for (int way : new int[] {-1, 6, 7, 256, LOWEST, HIGHEST}) {
            refused("went(" + way + ")", INDEX, grid -> grid.went(way));
        }
    }

    private static void flowOfNoStretch() {
        Check.sentence("15: IndexOutOfBoundsException if there is no such stretch");
        for (int stretch : NO_STRETCHES) {
            refused("flow(" + stretch + ")", INDEX, grid -> grid.flow(stretch));
        }
    }

    private static void isMemberOfNoHouse() {
        Check.sentence("16: IndexOutOfBoundsException if there is no such house");
        for (int house : NO_HOUSES) {
            refused("isMember(" + house + ")", INDEX, grid -> grid.isMember(house) ? 1 : 0);
        }
    }

    private static void storedOfNoHouse() {
        Check.sentence("17: IndexOutOfBoundsException if there is no such house");
        for (int house : NO_HOUSES) {
            refused("stored(" + house + ")", INDEX, grid -> grid.stored(house));
        }
    }

    private static void partOfNoHouse() {
        Check.sentence("18: IndexOutOfBoundsException if there is no such house");
        for (int house : NO_HOUSES) {
            refused("part(" + house + ")", INDEX, grid -> grid.part(house));
        }
    }

    private static void billOfNoHouse() {
        Check.sentence("19: IndexOutOfBoundsException if there is no such house");
        for (int house : NO_HOUSES) {
            refused("bill(" + house + ")", INDEX, grid -> grid.bill(house));
        }
    }

    private static void firstNamedIsThrown() {
        Check.sentence("if several exceptions apply, the one that its throws clause names first is thrown");
        for (int house : new int[] {-1, 6}) {
            refused("forecast(" + house + ", 51)", INDEX, grid -> grid.forecast(house, 51));
            refused("meter(" + house + ", -51)", INDEX, grid -> grid.meter(house, -51));
            refused("setPrice(" + house + ", 101)", INDEX, grid -> grid.setPrice(house, 101));
            refused("rent(" + house + ", same, 0)", INDEX, grid -> grid.rent(house, house, 0));
            refused("rent(" + house + ", 5, 101)", INDEX, grid -> grid.rent(house, 5, 101));
            refused("rent(5, " + house + ", 0)", INDEX, grid -> grid.rent(5, house, 0));
            refused("rent(5, " + house + ", 1)", INDEX, grid -> grid.rent(5, house, 1));
            refused("rent(0, " + house + ", 100)", INDEX, grid -> grid.rent(0, house, 100));
        }
        for (int stretch : new int[] {-1, 5}) {
            refused("setLimit(" + stretch + ", 301)", INDEX, grid -> grid.setLimit(stretch, 301));
            refused("setLimit(" + stretch + ", -1)", INDEX, grid -> grid.setLimit(stretch, -1));
        }
        refused("forecast(5, 51)", ARGUMENT, grid -> grid.forecast(5, 51));
        refused("meter(5, -51)", ARGUMENT, grid -> grid.meter(5, -51));
        refused("rent(5, 5, 1)", ARGUMENT, grid -> grid.rent(5, 5, 1));
        refused("rent(5, 2, 0)", ARGUMENT, grid -> grid.rent(5, 2, 0));
        refused("rent(2, 5, 101)", ARGUMENT, grid -> grid.rent(2, 5, 101));
        refused("rent(0, 0, 100)", ARGUMENT, grid -> grid.rent(0, 0, 100));
        refused("rent(0, 1, 101)", ARGUMENT, grid -> grid.rent(0, 1, 101));
    }

    private static void refusedCallsBetweenOthersChangeNothing() {
        Check.sentence("A call that throws an exception changes nothing");
        Gridpeer calm = Grids.rich();
        Gridpeer troubled = Grids.rich();
        for (int round = 0; round < 6; round++) {
            int house = round % 5;
            Check.badArgument("meter", () -> troubled.meter(house, 51));
            Check.badState("meter", () -> troubled.meter(5, 50));
            Check.badArgument("forecast", () -> troubled.forecast(house, -51));
            Check.badArgument("setPrice", () -> troubled.setPrice(house, 101));
            Check.badArgument("setLimit", () -> troubled.setLimit(house, 301));
            Check.badArgument("setSupplier", () -> supplier(troubled, 40, 41));
            Check.badState("rent", () -> troubled.rent(house, (house + 1) % 5, 100));
            Check.badState("leave", () -> troubled.leave(5));
            for (Gridpeer grid : new Gridpeer[] {calm, troubled}) {
                Grids.tell(grid, 9 - round, -7, 4, round - 12, 2 * round);
            }
            Check.due("clear() of both", troubled.clear(), calm.clear());
        }
        Check.due("both hold the same", Grids.wholeOf(troubled).equals(Grids.wholeOf(calm)), true);
    }
}
