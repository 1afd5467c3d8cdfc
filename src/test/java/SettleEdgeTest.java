/** Steps 3 to 5 of a clearing, parts, leaving and bills at their edges, sentence by sentence. */
public final class SettleEdgeTest {
    public static void main(String[] args) {
        unsoldGoesAsFarAsThereIsRoom();
        unsoldGoesIntoARentedPart();
        cutUnitsAreNotSold();
        soldUnitsAreNotStored();
        lackIsTakenAsFarAsThereIsSome();
        lackIsTakenFromTheOwnPart();
        eachUnitTakenWears();
        storeBelowAFourthCosts();
        fourthIsRoundedDown();
        lowStoreCostsOnlyWhoTakesSome();
        supplierSellsWhatIsLackingStill();
        supplierBuysWhatIsLeft();
        forecastIsPaidForEachUnit();
        forecastIsPaidByMembersAlone();
        nextQuarterHourBegins();
        leavingTakesThePartAlong();
        leavingIsPaidForTheStore();
        allMayLeave();
        billsAndPoolBelowZero();
        Check.end();
    }

    private static void unsoldGoesAsFarAsThereIsRoom() {
        Check.sentence("What a seller has not sold goes into its part of the battery, as far as there is room");
        // {stored before, units, stored then, sold to the supplier}
        int[][] rows = {
            {0, 1, 1, 0}, {0, 19, 19, 0}, {0, 20, 20, 0}, {0, 21, 20, 1}, {0, 50, 20, 30}, {19, 1, 20, 0},
            {19, 2, 20, 1}, {20, 1, 20, 1}, {20, 50, 20, 50}, {1, 19, 20, 0}, {1, 20, 20, 1},
        };
        for (int[] row : rows) {
            Gridpeer grid = Grids.withStore(3, row[0]);
            int bill = grid.bill(3);
            Grids.tellOne(grid, 3, row[1]);
            grid.clear();
            String run = " of " + row[1] + " more than " + row[0];
            Check.due("stored(3)" + run, grid.stored(3), row[2]);
            Check.due("went(STORED)" + run, grid.went(Gridpeer.STORED), row[2] - row[0]);
            Check.due("went(SOLD)" + run, grid.went(Gridpeer.SOLD), row[3]);
            Check.due("bill(3)" + run, grid.bill(3) - bill, -4 * row[3]);
            Check.due("stored(2)" + run, grid.stored(2), 0);
        }
    }

    private static void unsoldGoesIntoARentedPart() {
        Check.sentence("into its part of the battery, as far as there is room");
        Gridpeer none = new Gridpeer();
        none.rent(0, 1, 20);
        Grids.tell(none, 5, 41);
        none.clear();
        Check.due("stored(0) of a part 0", none.stored(0), 0);
        Check.due("stored(1) of a part 40", none.stored(1), 40);
        Check.due("went(STORED)", none.went(Gridpeer.STORED), 40);
        Check.due("went(SOLD)", none.went(Gridpeer.SOLD), 6);
        Check.badState("rent(1, 0, 1) of a full part", () -> none.rent(1, 0, 1));
        Grids.tell(none, -1, -1);
        none.clear();
        Check.due("stored(1) behind one taken", none.stored(1), 39);
        Check.due("rent(1, 0, 1) of the room of one", none.rent(1, 0, 1), 1);
    }

    private static void cutUnitsAreNotSold() {
        Check.sentence("(cut units are not sold)");
        Gridpeer grid = Grids.told(5, -5);
        grid.setLimit(0, 2);
        grid.clear();
        Check.due("stored(0)", grid.stored(0), 3);
        Check.due("went(STORED)", grid.went(Gridpeer.STORED), 3);
        Check.due("went(BOUGHT)", grid.went(Gridpeer.BOUGHT), 3);
        Check.due("went(SOLD)", grid.went(Gridpeer.SOLD), 0);
        Gridpeer full = Grids.withStore(0, 20);
        Grids.tell(full, 5, -5);
        full.setLimit(0, 2);
        full.clear();
        Check.due("went(SOLD) with a full part", full.went(Gridpeer.SOLD), 3);
        Check.due("bill(0)", full.bill(0), -2 * 10 - 3 - 3 * 4);
    }

    private static void soldUnitsAreNotStored() {
        Check.sentence("What a seller has not sold");
        Gridpeer all = Grids.told(5, -5);
        all.clear();
        Check.due("stored(0) with all sold", all.stored(0), 0);
        Gridpeer some = Grids.told(6, -5);
        some.clear();
        Check.due("stored(0) with one not sold", some.stored(0), 1);
    }

    private static void lackIsTakenAsFarAsThereIsSome() {
        Check.sentence("what a buyer lacks it takes from its own part, as far as there is some");
        // {stored before, units, taken, bought from the supplier}
        int[][] rows = {
            {0, 1, 0, 1}, {1, 1, 1, 0}, {1, 2, 1, 1}, {7, 6, 6, 0}, {7, 7, 7, 0}, {7, 8, 7, 1}, {20, 19, 19, 0},
            {20, 20, 20, 0}, {20, 21, 20, 1}, {20, 50, 20, 30},
        };
        for (int[] row : rows) {
            Gridpeer grid = Grids.withStore(2, row[0]);
            Grids.tellOne(grid, 2, -row[1]);
            grid.clear();
            String run = " of " + row[1] + " from " + row[0];
            Check.due("went(TAKEN)" + run, grid.went(Gridpeer.TAKEN), row[2]);
            Check.due("stored(2)" + run, grid.stored(2), row[0] - row[2]);
            Check.due("went(BOUGHT)" + run, grid.went(Gridpeer.BOUGHT), row[3]);
            Check.due("supplied()" + run, grid.supplied(), 30 * row[3]);
        }
        Gridpeer whole = new Gridpeer();
        for (int house = 1; house < 6; house++) {
            whole.rent(house, 0, 20);
        }
        for (int round = 0; round < 3; round++) {
            Grids.tellOne(whole, 0, 40);
            whole.clear();
        }
        Check.due("stored(0), the whole battery", whole.stored(0), 120);
        Grids.tellOne(whole, 0, -50);
        whole.clear();
        Check.due("went(TAKEN) of the whole battery", whole.went(Gridpeer.TAKEN), 50);
        Check.due("pool()", whole.pool(), 100);
    }

    private static void lackIsTakenFromTheOwnPart() {
        Check.sentence("from its own part");
        Gridpeer grid = Grids.withStore(1, 20);
        Grids.tellOne(grid, 0, -3);
        grid.clear();
        Check.due("stored(1) of another", grid.stored(1), 20);
        Check.due("went(TAKEN)", grid.went(Gridpeer.TAKEN), 0);
        Check.due("went(BOUGHT)", grid.went(Gridpeer.BOUGHT), 3);
        Gridpeer cut = Grids.withStore(1, 9);
        Grids.tell(cut, 5, -7);
        cut.setLimit(0, 1);
        cut.clear();
        Check.due("went(TAKEN) of what a cut left lacking", cut.went(Gridpeer.TAKEN), 6);
        Check.due("stored(1)", cut.stored(1), 3);
        Check.due("stored(0) of what was cut", cut.stored(0), 4);
    }

    /** One house takes units out; tells what it pays for that. */
    private static int paidFor(int part, int stored, int taken) {
        Gridpeer grid = new Gridpeer();
        if (part > 20) {
            for (int house = 0; house < 5; house++) {
                int units = Math.min(20, part - grid.part(5));
                if (units > 0) {
                    grid.rent(house, 5, units);
                }
            }
        }
        for (int in = 0; in < stored; in += 50) {
            Grids.tellOne(grid, 5, Math.min(50, stored - in));
            grid.clear();
        }
        if (part < 20) {
            grid.rent(5, 0, 20 - part);
        }
        int pool = grid.pool();
        int bill = grid.bill(5);
        Grids.tellOne(grid, 5, -taken);
        grid.clear();
        String run = " of " + taken + " from " + stored + " in " + part;
        Check.due("part(5)" + run, grid.part(5), part);
        Check.due("stored(5)" + run, grid.stored(5), stored - taken);
        Check.due("went(TAKEN)" + run, grid.went(Gridpeer.TAKEN), taken);
        Check.due("pool()" + run + " gets what the house pays", grid.pool() - pool, grid.bill(5) - bill);
        return grid.bill(5) - bill;
    }

    private static void eachUnitTakenWears() {
        Check.sentence("Each unit taken out wears the battery: the buyer pays 2 to the pool for it");
        for (int taken = 0; taken <= 15; taken++) {
            Check.due("paid for " + taken, paidFor(20, 20, taken), 2 * taken);
        }
        Check.due("paid for 50 of 120", paidFor(120, 120, 50), 100);
    }

    private static void storeBelowAFourthCosts() {
        Check.sentence("if it takes some, 1 more for each unit by which its store is below part / 4 behind that");
        for (int taken = 15; taken <= 20; taken++) {
            Check.due("paid for " + taken + " of 20", paidFor(20, 20, taken), 2 * taken + taken - 15);
        }
        Check.due("paid for 1 of 6 in 20", paidFor(20, 6, 1), 2);
        Check.due("paid for 1 of 5 in 20", paidFor(20, 5, 1), 2 + 1);
        Check.due("paid for 1 of 1 in 20", paidFor(20, 1, 1), 2 + 5);
        Check.due("paid for 1 of 31 in 120", paidFor(120, 31, 1), 2);
        Check.due("paid for 1 of 30 in 120", paidFor(120, 30, 1), 2 + 1);
        Check.due("paid for 30 of 30 in 120", paidFor(120, 30, 30), 60 + 30);
    }

    private static void fourthIsRoundedDown() {
        Check.sentence("part / 4; quotients are rounded down");
        for (int part = 1; part <= 20; part++) {
            Check.due("paid for 1 of 1 in " + part, paidFor(part, 1, 1), 2 + part / 4);
            Check.due("paid for all of " + part, paidFor(part, part, part), 2 * part + part / 4);
        }
        Check.due("paid for 1 of 1 in 23", paidFor(23, 1, 1), 2 + 5);
        Check.due("paid for 1 of 1 in 24", paidFor(24, 1, 1), 2 + 6);
    }

    private static void lowStoreCostsOnlyWhoTakesSome() {
        Check.sentence("and, if it takes some, 1 more");
        Gridpeer grid = Grids.withStore(1, 2);
        Grids.tell(grid, -1, 0, 1, 4, -4, 0);
        grid.clear();
        Check.due("bill(0), nothing stored", grid.bill(0), 10);
        Check.due("bill(1), neither buyer nor seller", grid.bill(1), 0);
        Check.due("pool()", grid.pool(), 0);
        Grids.tell(grid, 4, -4, 0, 0, 0, 0);
        grid.clear();
        Check.due("bill(1), who lacks nothing", grid.bill(1), 40);
        Check.due("stored(1)", grid.stored(1), 2);
        Check.due("pool() then", grid.pool(), 0);
        Gridpeer empty = Grids.told(-1, -50);
        empty.clear();
        Check.due("pool() of who takes from an empty part", empty.pool(), 0);
    }

    private static void supplierSellsWhatIsLackingStill() {
        Check.sentence("The supplier sells what buyers lack still, for its price, 30 at first");
        Gridpeer grid = Grids.withStore(1, 4);
        Grids.tell(grid, 3, -8);
        grid.clear();
        Check.due("went(TRADED)", grid.went(Gridpeer.TRADED), 3);
        Check.due("went(TAKEN)", grid.went(Gridpeer.TAKEN), 4);
        Check.due("went(BOUGHT)", grid.went(Gridpeer.BOUGHT), 1);
        Check.due("supplied()", grid.supplied(), 30);
        Check.due("bill(1)", grid.bill(1), 3 * 10 + 4 * 2 + 5 + 30);
        for (int lack : new int[] {0, 1, 50}) {
            Gridpeer alone = Grids.told(-lack);
            alone.setSupplier(1, 0);
            alone.clear();
            Check.due("supplied() for " + lack, alone.supplied(), lack);
            Check.due("bill(0) for " + lack, alone.bill(0), lack);
        }
    }

    private static void supplierBuysWhatIsLeft() {
        Check.sentence("and buys what sellers have left, for its other price, 4 at first");
        for (int units : new int[] {20, 21, 50}) {
            Gridpeer grid = Grids.told(units);
            grid.clear();
            Check.due("went(SOLD) of " + units, grid.went(Gridpeer.SOLD), units - 20);
            Check.due("supplied() of " + units, grid.supplied(), -4 * (units - 20));
            Check.due("bill(0) of " + units, grid.bill(0), -4 * (units - 20));
        }
        Gridpeer free = Grids.told(50);
        free.setSupplier(100, 0);
        free.clear();
        Check.due("went(SOLD) for 0", free.went(Gridpeer.SOLD), 30);
        Check.due("bill(0) for 0", free.bill(0), 0);
        Gridpeer dear = Grids.told(50);
        dear.setSupplier(100, 100);
        dear.clear();
        Check.due("bill(0) for 100", dear.bill(0), -3000);
    }

    private static void forecastIsPaidForEachUnit() {
        Check.sentence("Each member pays 1 to the pool for each unit by which its meter and its forecast differ");
        // {meter, forecast, due}; a meter of at most 20 is stored, so that nothing else is paid.
        int[][] rows = {
            {0, 0, 0}, {0, 1, 1}, {0, -1, 1}, {0, 50, 50}, {0, -50, 50}, {1, 0, 1}, {20, 20, 0}, {20, 19, 1},
            {20, 21, 1}, {20, 50, 30}, {20, -50, 70}, {3, -3, 6},
        };
        for (int[] row : rows) {
            Gridpeer grid = new Gridpeer();
            grid.meter(4, row[0]);
            grid.forecast(4, row[1]);
            grid.clear();
            Check.due("bill(4) for " + row[0] + " and " + row[1], grid.bill(4), row[2]);
            Check.due("pool() for " + row[0] + " and " + row[1], grid.pool(), row[2]);
        }
        Gridpeer most = new Gridpeer();
        most.meter(0, -50);
        most.forecast(0, 50);
        most.meter(1, 50);
        most.forecast(1, -50);
        most.clear();
        Check.due("pool() of 100 twice", most.pool(), 200);
        Check.due("bill(0)", most.bill(0), 500 + 100);
        Check.due("bill(1)", most.bill(1), -500 + 100);
    }

    private static void forecastIsPaidByMembersAlone() {
        Check.sentence("it is a member no more, and its forecast and meter do not matter");
        Gridpeer grid = new Gridpeer();
        grid.forecast(0, 50);
        grid.meter(1, 20);
        grid.forecast(2, 1);
        grid.leave(0);
        grid.leave(1);
        grid.clear();
        Check.due("bill(0)", grid.bill(0), 0);
        Check.due("bill(1)", grid.bill(1), 0);
        Check.due("bill(2)", grid.bill(2), 1);
        Check.due("pool()", grid.pool(), 1);
        Check.due("stored(1)", grid.stored(1), 0);
    }

    private static void nextQuarterHourBegins() {
        Check.sentence("Then the next quarter hour begins");
        Gridpeer grid = Grids.told(9, -4);
        grid.clear();
        int bill = grid.bill(0);
        Check.due("clear() of the next", grid.clear(), 0);
        Check.due("bill(0) of the next", grid.bill(0), bill);
        Check.due("stored(0) of the next", grid.stored(0), 5);
        Check.due("quarter()", grid.quarter(), 2);
        Check.due("setPrice(0, 10) stays", grid.setPrice(0, 10), 10);
        Gridpeer kept = Grids.told(9, -4);
        kept.setPrice(0, 7);
        kept.setPrice(1, 8);
        kept.setLimit(1, 55);
        kept.setSupplier(60, 50);
        kept.clear();
        Check.due("setPrice(0, 10)", kept.setPrice(0, 10), 7);
        Check.due("setLimit(1, 0)", kept.setLimit(1, 0), 55);
        Check.due("leave(0) at the price told before", kept.leave(0), 5 * 50);
    }

    private static void leavingTakesThePartAlong() {
        Check.sentence("A member that leaves takes its part along");
        for (int house = 0; house < 6; house++) {
            Gridpeer grid = Grids.withStore(house, 20);
            grid.leave(house);
            for (int other = 0; other < 6; other++) {
                Check.due("part(" + other + ")", grid.part(other), other == house ? 0 : 20);
                Check.due("stored(" + other + ")", grid.stored(other), 0);
                Check.due("isMember(" + other + ")", grid.isMember(other), other != house);
            }
        }
        Gridpeer rented = new Gridpeer();
        rented.rent(0, 1, 20);
        rented.leave(1);
        Check.due("part(0), rented to who left", rented.part(0), 0);
        Check.due("leave(0) with a part 0", rented.leave(0), 0);
    }

    private static void leavingIsPaidForTheStore() {
        Check.sentence("and gets what is stored in it paid at the supplier's other price, by the pool");
        int[][] rows = {{0, 4}, {1, 4}, {20, 4}, {20, 0}, {1, 1}, {20, 100}, {7, 99}};
        for (int[] row : rows) {
            Gridpeer grid = Grids.withStore(3, row[0]);
            grid.setSupplier(100, row[1]);
            int sum = row[0] * row[1];
            Check.due("leave(3) with " + row[0] + " at " + row[1], grid.leave(3), sum);
            Check.due("bill(3)", grid.bill(3), -sum);
            Check.due("pool()", grid.pool(), -sum);
            Check.due("supplied()", grid.supplied(), 0);
        }
    }

    private static void allMayLeave() {
        Check.sentence("8: Lets a member leave");
        Gridpeer grid = Grids.told(20, -5, 20, 20, 20, 20);
        grid.clear();
        for (int house = 5; house >= 0; house--) {
            int same = house;
            Check.due("leave(" + house + ")", grid.leave(house), 4 * stored(house));
            Check.badState("leave(" + house + ") again", () -> grid.leave(same));
        }
        Check.due("mostTradable() of nobody", grid.mostTradable(), 0);
        Check.due("clear() of nobody", grid.clear(), 0);
        Check.due("quarter() of nobody", grid.quarter(), 2);
        Check.due("trades() of nobody", grid.trades(), 0);
        for (int house = 0; house < 6; house++) {
            Check.due("part(" + house + ") of nobody", grid.part(house), 0);
        }
    }

    /** What is stored behind the meters of allMayLeave: house 0 sells 5 of its 20, house 1 needs them. */
    private static int stored(int house) {
        return house == 0 ? 15 : house == 1 ? 0 : 20;
    }

    private static void billsAndPoolBelowZero() {
        Check.sentence("it may be below 0, and so may the pool");
        Gridpeer grid = Grids.told(new int[] {50, -50, 0, 0, 0, 0}, new int[] {100, 100, 10, 10, 10, 10});
        grid.setLimit(0, 1);
        grid.clear();
        Check.due("bill(0)", grid.bill(0), -100 - 49 - 29 * 4);
        Check.due("pool()", grid.pool(), -49);
        Check.due("supplied()", grid.supplied(), 49 * 30 - 29 * 4);
        Gridpeer paying = Grids.told(50);
        paying.clear();
        Check.due("supplied() may be so too", paying.supplied(), -120);
    }
}
