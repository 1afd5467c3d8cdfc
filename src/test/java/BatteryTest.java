/** Promises 7 and 8, and 16 to 18: renting, leaving, who is a member, stores and parts. */
public final class BatteryTest {
    private static final int[] NO_HOUSES = {-1, 6, 7, Integer.MIN_VALUE, Integer.MAX_VALUE};

    public static void main(String[] args) {
        rents();
        rentsNoMoreThanRoom();
        rentsAllOfAll();
        rentsWrong();
        leaves();
        leavesWithMeterAndForecast();
        leavesWrong();
        asksOfHouses();
        wear();
        Check.end();
    }

    private static void rents() {
        Gridpeer grid = new Gridpeer();
        Check.due("rent(0, 1, 1)", grid.rent(0, 1, 1), 21);
        Check.due("rent(0, 5, 19)", grid.rent(0, 5, 19), 39);
        Check.due("part(0)", grid.part(0), 0);
        Check.due("part(1)", grid.part(1), 21);
        Check.due("part(5)", grid.part(5), 39);
        Check.due("rent(5, 0, 4)", grid.rent(5, 0, 4), 4);
        Check.due("nobody pays", grid.bill(0) + grid.bill(1) + grid.bill(5) + grid.pool(), 0);
        grid.meter(0, 10);
        grid.clear();
        Check.due("stored(0) in a rented part", grid.stored(0), 4);
        Check.due("went(STORED)", grid.went(Gridpeer.STORED), 4);
        Check.due("went(SOLD)", grid.went(Gridpeer.SOLD), 6);
    }

    private static void rentsNoMoreThanRoom() {
        Gridpeer grid = Grids.withStore(3, 12);
        String before = Check.stateOf(grid);
        Check.badState("rent(3, 4, 9)", () -> grid.rent(3, 4, 9));
        Check.badState("rent(3, 4, 100)", () -> grid.rent(3, 4, 100));
        Check.unchanged("too much rent", before, grid);
        Check.due("rent(3, 4, 8)", grid.rent(3, 4, 8), 28);
        Check.due("stored(3)", grid.stored(3), 12);
        Check.due("part(3)", grid.part(3), 12);
        Check.due("stored(4)", grid.stored(4), 0);
        Check.badState("rent(3, 4, 1)", () -> grid.rent(3, 4, 1));
        Check.badState("rent(4, 3, 29)", () -> grid.rent(4, 3, 29));
        Check.due("rent(4, 3, 28)", grid.rent(4, 3, 28), 40);
    }

    private static void rentsAllOfAll() {
        Gridpeer grid = new Gridpeer();
        for (int house = 1; house < 6; house++) {
            Check.due("rent(" + house + ", 0, 20)", grid.rent(house, 0, 20), 20 + 20 * house);
        }
        Check.due("rent(0, 1, 100)", grid.rent(0, 1, 100), 100);
        Check.due("part(0)", grid.part(0), 20);
    }

    private static void rentsWrong() {
        Gridpeer grid = new Gridpeer();
        grid.leave(5);
        String before = Check.stateOf(grid);
        for (int house : NO_HOUSES) {
            Check.outOfBounds("rent(" + house + ", 1, 1)", () -> grid.rent(house, 1, 1));
            Check.outOfBounds("rent(1, " + house + ", 1)", () -> grid.rent(1, house, 1));
            Check.outOfBounds("rent(" + house + ", same, 0)", () -> grid.rent(house, house, 0));
            Check.outOfBounds("rent(5, " + house + ", 101)", () -> grid.rent(5, house, 101));
        }
        for (int units : new int[] {0, -1, 101, Integer.MIN_VALUE, Integer.MAX_VALUE}) {
            Check.badArgument("rent(0, 1, " + units + ")", () -> grid.rent(0, 1, units));
            Check.badArgument("rent(0, 5, " + units + ")", () -> grid.rent(0, 5, units));
            Check.badArgument("rent(5, 0, " + units + ")", () -> grid.rent(5, 0, units));
        }
        Check.badArgument("rent(2, 2, 1)", () -> grid.rent(2, 2, 1));
        Check.badArgument("rent(5, 5, 1)", () -> grid.rent(5, 5, 1));
        Check.badState("rent(0, 5, 1)", () -> grid.rent(0, 5, 1));
        Check.badState("rent(5, 0, 1)", () -> grid.rent(5, 0, 1));
        Check.badState("rent(0, 1, 21)", () -> grid.rent(0, 1, 21));
        Check.unchanged("a wrong rent", before, grid);
    }

    private static void leaves() {
        Gridpeer grid = Grids.withStore(2, 15);
        Check.due("leave(2)", grid.leave(2), 60);
        Check.due("bill(2)", grid.bill(2), -60);
        Check.due("pool()", grid.pool(), -60);
        Check.due("supplied()", grid.supplied(), 0);
        Check.due("isMember(2)", grid.isMember(2), false);
        Check.due("part(2)", grid.part(2), 0);
        Check.due("stored(2)", grid.stored(2), 0);
        Check.due("went(STORED) of the last clearing", grid.went(Gridpeer.STORED), 15);
        Check.due("leave(1) with nothing stored", grid.leave(1), 0);
        Check.due("part(0) of who stays", grid.part(0), 20);
        grid.clear();
        Check.due("bill(2) behind another clearing", grid.bill(2), -60);
        Gridpeer dear = Grids.withStore(0, 20);
        dear.setSupplier(100, 73);
        Check.due("leave(0) at the other price then", dear.leave(0), 20 * 73);
        for (int house = 1; house < 6; house++) {
            dear.leave(house);
        }
        Check.due("clear() with no member", dear.clear(), 0);
        Check.due("pool() with no member", dear.pool(), -20 * 73);
    }

    private static void leavesWithMeterAndForecast() {
        Gridpeer grid = new Gridpeer();
        grid.meter(0, 8);
        grid.meter(1, -8);
        grid.forecast(2, 30);
        Check.due("mostTradable() with both", grid.mostTradable(), 8);
        grid.leave(0);
        grid.leave(2);
        Check.due("mostTradable() without the seller", grid.mostTradable(), 0);
        Check.due("clear()", grid.clear(), 0);
        Check.due("trades()", grid.trades(), 0);
        Check.due("bill(0)", grid.bill(0), 0);
        Check.due("bill(1)", grid.bill(1), 8 * 30 + 8);
        Check.due("bill(2)", grid.bill(2), 0);
        Check.due("went(SOLD)", grid.went(Gridpeer.SOLD), 0);
        Check.due("went(STORED)", grid.went(Gridpeer.STORED), 0);
        Check.due("pool()", grid.pool(), 8);
    }

    private static void leavesWrong() {
        Gridpeer grid = Grids.withStore(4, 3);
        grid.leave(5);
        String before = Check.stateOf(grid);
        for (int house : NO_HOUSES) {
            Check.outOfBounds("leave(" + house + ")", () -> grid.leave(house));
        }
        Check.badState("leave(5) again", () -> grid.leave(5));
        Check.unchanged("a wrong leave", before, grid);
    }

    private static void asksOfHouses() {
        Gridpeer grid = Grids.withStore(4, 50);
        String before = Check.stateOf(grid);
        Check.due("stored(4)", grid.stored(4), 20);
        Check.due("stored(3)", grid.stored(3), 0);
        for (int house : NO_HOUSES) {
            Check.outOfBounds("isMember(" + house + ")", () -> grid.isMember(house) ? 1 : 0);
            Check.outOfBounds("stored(" + house + ")", () -> grid.stored(house));
            Check.outOfBounds("part(" + house + ")", () -> grid.part(house));
            Check.outOfBounds("bill(" + house + ")", () -> grid.bill(house));
        }
        Check.unchanged("asking", before, grid);
    }

    private static void wear() {
        // {stored, rented away, taken, due at the pool}
        int[][] rows = {
            {20, 0, 15, 30}, {20, 0, 16, 33}, {20, 0, 20, 45}, {5, 0, 5, 15}, {4, 0, 1, 4},
            {4, 1, 1, 3}, {4, 1, 2, 6}, {2, 18, 2, 4}, {3, 17, 1, 2}, {4, 16, 4, 9}, {5, 0, 0, 0},
        };
        for (int[] row : rows) {
            Gridpeer grid = Grids.withStore(1, row[0]);
            if (row[1] > 0) {
                grid.rent(1, 0, row[1]);
            }
            int before = grid.bill(1);
            grid.meter(1, -row[2]);
            grid.forecast(1, -row[2]);
            grid.clear();
            String run = "of " + row[0] + " in " + (20 - row[1]) + " taking " + row[2];
            Check.due("bill " + run, grid.bill(1) - before, row[3]);
            Check.due("pool " + run, grid.pool(), row[3]);
            Check.due("taken " + run, grid.went(Gridpeer.TAKEN), row[2]);
            Check.due("stored " + run, grid.stored(1), row[0] - row[2]);
        }
        Gridpeer empty = new Gridpeer();
        empty.meter(1, -1);
        empty.forecast(1, -1);
        empty.clear();
        Check.due("an empty part does not wear", empty.pool(), 0);
    }
}
