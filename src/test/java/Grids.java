/** Objects to begin a test with, and a text of all that an object holds. */
final class Grids {
    private static final int[] TENS = {10, 10, 10, 10, 10, 10};

    private Grids() {
    }

    /** Meters as told, each forecast right, and all prices 10. */
    static Gridpeer told(int... meters) {
        return told(meters, TENS);
    }

    /** Meters and prices as told, and each forecast right. */
    static Gridpeer told(int[] meters, int[] prices) {
        Gridpeer grid = new Gridpeer();
        tell(grid, meters);
        for (int house = 0; house < 6; house++) {
            grid.setPrice(house, prices[house]);
        }
        return grid;
    }

    static void tell(Gridpeer grid, int... meters) {
        for (int house = 0; house < meters.length; house++) {
            if (grid.isMember(house)) {
                grid.meter(house, meters[house]);
                grid.forecast(house, meters[house]);
            }
        }
    }

    /** Tells one house's meter and a right forecast. */
    static void tellOne(Gridpeer grid, int house, int units) {
        grid.meter(house, units);
        grid.forecast(house, units);
    }

    /** One quarter hour was cleared, in which this house alone had units, all of them stored. */
    static Gridpeer withStore(int house, int units) {
        Gridpeer grid = new Gridpeer();
        tellOne(grid, house, units);
        grid.clear();
        return grid;
    }

    /** Of everything something: a clearing with cuts, stores, a house that left, and a quarter hour half told. */
    static Gridpeer rich() {
        Gridpeer grid = new Gridpeer();
        tell(grid, 30, -8, 12, -7, 15, 20);
        grid.setPrice(1, 30);
        grid.setPrice(3, 25);
        grid.setPrice(4, 26);
        grid.setLimit(0, 5);
        grid.clear();
        grid.rent(4, 3, 5);
        grid.leave(5);
        grid.setSupplier(17, 3);
        int[] meters = {11, -14, 3, -2, 6};
        int[] forecasts = {12, -9, 6, 1, -7};
        for (int house = 0; house < 5; house++) {
            grid.meter(house, meters[house]);
            grid.forecast(house, forecasts[house]);
        }
        return grid;
    }

    /** 500 quarter hours were cleared, and something is told for the next one. */
    static Gridpeer old() {
        Gridpeer grid = new Gridpeer();
        for (int cleared = 0; cleared < 500; cleared++) {
            grid.clear();
        }
        grid.meter(0, 5);
        grid.meter(1, -3);
        grid.forecast(1, 2);
        return grid;
    }

    /** All that an object holds, also what no call tells but by its effect; the object is used up by it. */
    static String wholeOf(Gridpeer grid) {
        StringBuilder text = new StringBuilder(Check.stateOf(grid)).append('\n');
        for (int house = 0; house < 6; house++) {
            if (grid.isMember(house)) {
                text.append(grid.forecast(house, 0)).append(' ').append(grid.meter(house, 0)).append(' ');
            }
            text.append(grid.setPrice(house, 10)).append('\n');
        }
        for (int stretch = 0; stretch < 5; stretch++) {
            text.append(grid.setLimit(stretch, 100)).append(' ');
        }
        return text.append('\n').append(supplierOf(grid)).toString();
    }

    /** Shows both prices of the supplier, by what one member pays for 50 units lacking and gets for 50 left. */
    private static String supplierOf(Gridpeer grid) {
        StringBuilder text = new StringBuilder();
        for (int house = 0; house < 6; house++) {
            if (grid.isMember(house) && grid.quarter() <= 498) {
                grid.meter(house, -50);
                grid.clear();
                text.append(Check.stateOf(grid)).append('\n');
                grid.meter(house, 50);
                grid.clear();
                return text.append(Check.stateOf(grid)).toString();
            }
        }
        return text.toString();
    }
}
