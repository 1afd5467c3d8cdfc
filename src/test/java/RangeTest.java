/** The ends of every range: the first and the last value that a call takes, and what holds at first. */
public final class RangeTest {
    private static final int[] LAST_HOUSES = {0, 5};

    public static void main(String[] args) {
        allAreMembersAtFirst();
        housesAndStretches();
        forecastUnits();
        meterUnits();
        forecastAndMeterAreZeroAtFirst();
        forecastAndMeterAreTheLastTold();
        priceAtFirstAndAtItsEnds();
        limitAtFirstAndAtItsEnds();
        supplierAtFirst();
        supplierSells();
        supplierBuys();
        rentUnits();
        partAtFirst();
        poolAndBillsAtFirst();
        newObjectIsInTheQuarterHourZero();
        objectsShareNothing();
        answersHoldToThe512thCall();
        neverThrowsByItselfLater();
        Check.end();
    }

    private static void allAreMembersAtFirst() {
        Check.sentence("All houses are members at first");
        Gridpeer grid = new Gridpeer();
        for (int house = 0; house < 6; house++) {
            Check.due("isMember(" + house + ")", grid.isMember(house), true);
        }
    }

    private static void housesAndStretches() {
        Check.sentence("Houses are 0 to 5; the stretch k, 0 to 4, lies between the houses k and k + 1");
        for (int stretch = 0; stretch < 5; stretch++) {
            Gridpeer grid = new Gridpeer();
            Grids.tellOne(grid, stretch, 3);
            Grids.tellOne(grid, stretch + 1, -3);
            grid.clear();
            for (int other = 0; other < 5; other++) {
                Check.due("flow(" + other + ") of neighbours", grid.flow(other), other == stretch ? 3 : 0);
            }
        }
        Gridpeer grid = new Gridpeer();
        for (int house : LAST_HOUSES) {
            Check.due("setPrice(" + house + ", 11)", grid.setPrice(house, 11), 10);
            Check.due("bill(" + house + ")", grid.bill(house), 0);
            Check.due("leave(" + house + ")", grid.leave(house), 0);
            Check.due("isMember(" + house + ")", grid.isMember(house), false);
        }
        Check.due("setLimit(0, 1)", grid.setLimit(0, 1), 100);
        Check.due("setLimit(4, 2)", grid.setLimit(4, 2), 100);
        Check.due("setLimit(0, 3)", grid.setLimit(0, 3), 1);
        Check.due("setLimit(4, 3)", grid.setLimit(4, 3), 2);
    }

    private static void forecastUnits() {
        Check.sentence("2: units: -50 to 50; returns the forecast before");
        Gridpeer grid = new Gridpeer();
        int before = 0;
        for (int house = 0; house < 6; house++) {
            for (int units : new int[] {-50, 50, -49, 49, -1, 1, 0}) {
                Check.due("forecast(" + house + ", " + units + ")", grid.forecast(house, units), before);
                before = units;
            }
        }
    }

    private static void meterUnits() {
        Check.sentence("3: units: -50 to 50; returns the meter before");
        Gridpeer grid = new Gridpeer();
        int before = 0;
        for (int house = 0; house < 6; house++) {
            for (int units : new int[] {-50, 50, -49, 49, -1, 1, 0}) {
                Check.due("meter(" + house + ", " + units + ")", grid.meter(house, units), before);
                before = units;
            }
        }
    }

    private static void forecastAndMeterAreZeroAtFirst() {
        Check.sentence("both are 0 when a quarter hour begins");
        Gridpeer grid = new Gridpeer();
        for (int round = 0; round < 3; round++) {
            for (int house = 0; house < 6; house++) {
                Check.due("forecast(" + house + ", 50)", grid.forecast(house, 50), 0);
                Check.due("meter(" + house + ", -50)", grid.meter(house, -50), 0);
            }
            grid.clear();
        }
    }

    private static void forecastAndMeterAreTheLastTold() {
        Check.sentence("For each quarter hour a house has a forecast and a meter");
        Gridpeer grid = new Gridpeer();
        grid.meter(3, 50);
        grid.meter(3, -2);
        grid.forecast(3, 50);
        grid.forecast(3, -3);
        grid.clear();
        Check.due("bill(3) by the last meter and forecast", grid.bill(3), 2 * 30 + 1);
    }

    private static void priceAtFirstAndAtItsEnds() {
        Check.sentence("A house has a price, 0 to 100, 10 at first");
        Gridpeer grid = new Gridpeer();
        for (int house = 0; house < 6; house++) {
            int before = 10;
            for (int price : new int[] {0, 100, 1, 99, 10}) {
                Check.due("setPrice(" + house + ", " + price + ")", grid.setPrice(house, price), before);
                before = price;
            }
        }
        grid.setPrice(2, 0);
        grid.clear();
        grid.leave(2);
        Check.due("setPrice(2, 100) of who left", grid.setPrice(2, 100), 0);
        Check.due("setPrice(2, 0) of who left", grid.setPrice(2, 0), 100);
    }

    private static void limitAtFirstAndAtItsEnds() {
        Check.sentence("5: the limit of a stretch, 100 at first; units: 0 to 300; returns the limit before");
        Gridpeer grid = new Gridpeer();
        for (int stretch = 0; stretch < 5; stretch++) {
            int before = 100;
            for (int units : new int[] {0, 300, 1, 299, 100}) {
                Check.due("setLimit(" + stretch + ", " + units + ")", grid.setLimit(stretch, units), before);
                before = units;
            }
        }
    }

    /** What the supplier gets for one unit that it sells, and what it pays for one that it buys. */
    private static void supplierAsks(Gridpeer grid, int sells, int buys) {
        int before = grid.supplied();
        Grids.tellOne(grid, 0, -1);
        grid.clear();
        Check.due("supplied() for one unit", grid.supplied() - before, sells);
        Grids.tellOne(grid, 1, 50);
        grid.clear();
        before = grid.supplied();
        Grids.tellOne(grid, 1, 1);
        grid.clear();
        Check.due("supplied() of one unit", grid.supplied() - before, -buys);
    }

    private static void supplierAtFirst() {
        Check.sentence("for its price, 30 at first; for its other price, 4 at first");
        supplierAsks(new Gridpeer(), 30, 4);
    }

    private static void supplierSells() {
        Check.sentence("6: sells: 1 to 100");
        for (int sells : new int[] {1, 2, 99, 100}) {
            Gridpeer grid = new Gridpeer();
            grid.setSupplier(sells, 1);
            supplierAsks(grid, sells, 1);
        }
    }

    private static void supplierBuys() {
        Check.sentence("6: buys: 0 to sells");
        int[][] pairs = {{1, 0}, {1, 1}, {2, 2}, {50, 49}, {50, 50}, {100, 0}, {100, 99}, {100, 100}};
        Gridpeer grid = new Gridpeer();
        for (int[] pair : pairs) {
            grid.setSupplier(pair[0], pair[1]);
            supplierAsks(grid, pair[0], pair[1]);
        }
    }

    private static void rentUnits() {
        Check.sentence("7: units: 1 to 100; returns the part of the other one then");
        Gridpeer grid = new Gridpeer();
        Check.due("rent(0, 5, 1)", grid.rent(0, 5, 1), 21);
        Check.due("part(0)", grid.part(0), 19);
        Check.due("part(5)", grid.part(5), 21);
        for (int house = 0; house < 5; house++) {
            grid.rent(house, 5, grid.part(house));
        }
        Check.due("part(5), the whole battery", grid.part(5), 120);
        Check.badArgument("rent(5, 0, 101)", () -> grid.rent(5, 0, 101));
        Check.due("rent(5, 0, 100)", grid.rent(5, 0, 100), 100);
        Check.due("part(5)", grid.part(5), 20);
        Check.due("rent(0, 5, 99)", grid.rent(0, 5, 99), 119);
    }

    private static void partAtFirst() {
        Check.sentence("how many units of the battery are its own, 20 at first, with nothing stored");
        Gridpeer grid = new Gridpeer();
        for (int house = 0; house < 6; house++) {
            Check.due("part(" + house + ")", grid.part(house), 20);
            Check.due("stored(" + house + ")", grid.stored(house), 0);
        }
    }

    private static void poolAndBillsAtFirst() {
        Check.sentence("and so may the pool, which is 0 at first");
        Gridpeer grid = new Gridpeer();
        Check.due("pool()", grid.pool(), 0);
        Check.due("supplied()", grid.supplied(), 0);
        for (int house = 0; house < 6; house++) {
            Check.due("bill(" + house + ")", grid.bill(house), 0);
        }
    }

    private static void newObjectIsInTheQuarterHourZero() {
        Check.sentence("1: Creates a feeder with six members, in the quarter hour 0");
        Gridpeer grid = new Gridpeer();
        Check.due("quarter()", grid.quarter(), 0);
        grid.clear();
        Check.due("quarter()", grid.quarter(), 1);
        Check.due("quarter() of a new one", new Gridpeer().quarter(), 0);
    }

    private static void objectsShareNothing() {
        Check.sentence("1: Creates a feeder");
        String fresh = Grids.wholeOf(new Gridpeer());
        Gridpeer before = new Gridpeer();
        String told = Check.stateOf(Grids.rich());
        Check.due("an object made before another", Grids.wholeOf(before).equals(fresh), true);
        Check.due("an object made behind another", Grids.wholeOf(new Gridpeer()).equals(fresh), true);
        Check.due("another again", Check.stateOf(Grids.rich()).equals(told), true);
    }

    private static void answersHoldToThe512thCall() {
        Check.sentence("An object is used for at most 512 calls after it has been made");
        Gridpeer grid = new Gridpeer();
        int bill = 0;
        for (int round = 0; round < 255; round++) {
            Check.due("meter", grid.meter(0, -50), 0);
            Check.due("clear()", grid.clear(), 0);
            bill += 50 * 30 + 50;
        }
        Check.due("bill(0), the 511th call", grid.bill(0), bill);
        Check.due("pool(), the 512th call", grid.pool(), 255 * 50);
    }

    private static void neverThrowsByItselfLater() {
        Check.sentence("what later calls answer is free (LANGUAGE.md, 7: no call may ever throw by itself)");
        Gridpeer grid = Grids.rich();
        for (int call = 0; call < 4000; call++) {
            int house = call % 7 - 1;
            int units = call % 103 - 51;
            Check.notByItself("meter", () -> grid.meter(house, units));
            Check.notByItself("forecast", () -> grid.forecast(house, -units));
            Check.notByItself("mostTradable", grid::mostTradable);
            Check.notByItself("clear", grid::clear);
            Check.notByItself("ofTrade", () -> grid.ofTrade(house, 0));
        }
    }
}
