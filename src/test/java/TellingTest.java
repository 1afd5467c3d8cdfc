/** Promises 1 to 6: a new object, forecasts, meters, prices, limits and the supplier. */
public final class TellingTest {
    private static final int[] NO_HOUSES = {-1, 6, 7, Integer.MIN_VALUE, Integer.MAX_VALUE};
    private static final int[] NO_STRETCHES = {-1, 5, 6, Integer.MIN_VALUE, Integer.MAX_VALUE};
    private static final int[] NO_UNITS = {-51, 51, Integer.MIN_VALUE, Integer.MAX_VALUE};

    public static void main(String[] args) {
        newObject();
        forecasts();
        forecastsWrong();
        meters();
        metersWrong();
        prices();
        pricesWrong();
        limits();
        limitsWrong();
        supplier();
        supplierWrong();
        Check.end();
    }

    private static void newObject() {
        Gridpeer grid = new Gridpeer();
        Check.due("quarter()", grid.quarter(), 0);
        Check.due("mostTradable()", grid.mostTradable(), 0);
        Check.due("trades()", grid.trades(), 0);
        Check.due("pool()", grid.pool(), 0);
        Check.due("supplied()", grid.supplied(), 0);
        for (int house = 0; house < 6; house++) {
            Check.due("isMember(" + house + ")", grid.isMember(house), true);
            Check.due("part(" + house + ")", grid.part(house), 20);
            Check.due("stored(" + house + ")", grid.stored(house), 0);
            Check.due("bill(" + house + ")", grid.bill(house), 0);
            Check.due("setPrice(" + house + ", 10)", grid.setPrice(house, 10), 10);
            Check.due("meter(" + house + ", 0)", grid.meter(house, 0), 0);
            Check.due("forecast(" + house + ", 0)", grid.forecast(house, 0), 0);
        }
        for (int stretch = 0; stretch < 5; stretch++) {
            Check.due("flow(" + stretch + ")", grid.flow(stretch), 0);
            Check.due("setLimit(" + stretch + ", 100)", grid.setLimit(stretch, 100), 100);
        }
        for (int way = 0; way < 6; way++) {
            Check.due("went(" + way + ")", grid.went(way), 0);
        }
        Gridpeer other = new Gridpeer();
        other.meter(0, 7);
        other.leave(1);
        Check.due("meter of the first object", grid.meter(0, 0), 0);
        Check.due("member of the first object", grid.isMember(1), true);
    }

    private static void forecasts() {
        Gridpeer grid = new Gridpeer();
        for (int house = 0; house < 6; house++) {
            Check.due("forecast(.., 50)", grid.forecast(house, 50), 0);
            Check.due("forecast(.., -50)", grid.forecast(house, -50), 50);
            Check.due("forecast(.., house)", grid.forecast(house, house), -50);
            Check.due("meter is another", grid.meter(house, 0), 0);
        }
        grid.clear();
        for (int house = 0; house < 6; house++) {
            Check.due("bill for the forecast alone", grid.bill(house), house);
            Check.due("forecast of the next quarter hour", grid.forecast(house, 1), 0);
        }
    }

    private static void forecastsWrong() {
        Gridpeer grid = new Gridpeer();
        grid.forecast(2, 9);
        grid.leave(5);
        String before = Check.stateOf(grid);
        for (int house : NO_HOUSES) {
            Check.outOfBounds("forecast(" + house + ", 1)", () -> grid.forecast(house, 1));
            Check.outOfBounds("forecast(" + house + ", 51)", () -> grid.forecast(house, 51));
        }
        for (int units : NO_UNITS) {
            Check.badArgument("forecast(2, " + units + ")", () -> grid.forecast(2, units));
            Check.badArgument("forecast(5, " + units + "), no member", () -> grid.forecast(5, units));
        }
        Check.badState("forecast(5, 1)", () -> grid.forecast(5, 1));
        Check.badState("forecast(5, 0)", () -> grid.forecast(5, 0));
        Check.unchanged("a wrong forecast", before, grid);
        Check.due("forecast(2, 0)", grid.forecast(2, 0), 9);
    }

    private static void meters() {
        Gridpeer grid = new Gridpeer();
        for (int house = 0; house < 6; house++) {
            Check.due("meter(.., 50)", grid.meter(house, 50), 0);
            Check.due("meter(.., -50)", grid.meter(house, -50), 50);
            Check.due("meter(.., house + 1)", grid.meter(house, house + 1), -50);
            Check.due("forecast is another", grid.forecast(house, 0), 0);
        }
        grid.clear();
        for (int house = 0; house < 6; house++) {
            Check.due("stored(" + house + ")", grid.stored(house), house + 1);
            Check.due("meter of the next quarter hour", grid.meter(house, 1), 0);
        }
    }

    private static void metersWrong() {
        Gridpeer grid = new Gridpeer();
        grid.meter(2, 9);
        grid.leave(5);
        String before = Check.stateOf(grid);
        for (int house : NO_HOUSES) {
            Check.outOfBounds("meter(" + house + ", 1)", () -> grid.meter(house, 1));
            Check.outOfBounds("meter(" + house + ", -51)", () -> grid.meter(house, -51));
        }
        for (int units : NO_UNITS) {
            Check.badArgument("meter(2, " + units + ")", () -> grid.meter(2, units));
            Check.badArgument("meter(5, " + units + "), no member", () -> grid.meter(5, units));
        }
        Check.badState("meter(5, 1)", () -> grid.meter(5, 1));
        Check.badState("meter(5, 0)", () -> grid.meter(5, 0));
        Check.unchanged("a wrong meter", before, grid);
        Check.due("meter(2, 0)", grid.meter(2, 0), 9);
    }

    private static void prices() {
        Gridpeer grid = new Gridpeer();
        for (int house = 0; house < 6; house++) {
            Check.due("setPrice(.., 0)", grid.setPrice(house, 0), 10);
            Check.due("setPrice(.., 100)", grid.setPrice(house, 100), 0);
            Check.due("setPrice(.., house)", grid.setPrice(house, house), 100);
        }
        grid.clear();
        grid.leave(3);
        Check.due("price of who left", grid.setPrice(3, 40), 3);
        Check.due("price of who left, again", grid.setPrice(3, 41), 40);
        Check.due("price behind a clearing", grid.setPrice(4, 40), 4);
    }

    private static void pricesWrong() {
        Gridpeer grid = new Gridpeer();
        grid.setPrice(2, 9);
        for (int house : NO_HOUSES) {
            Check.outOfBounds("setPrice(" + house + ", 1)", () -> grid.setPrice(house, 1));
            Check.outOfBounds("setPrice(" + house + ", 101)", () -> grid.setPrice(house, 101));
        }
        for (int price : new int[] {-1, 101, Integer.MIN_VALUE, Integer.MAX_VALUE}) {
            Check.badArgument("setPrice(2, " + price + ")", () -> grid.setPrice(2, price));
        }
        Check.due("setPrice(2, 0)", grid.setPrice(2, 0), 9);
    }

    private static void limits() {
        Gridpeer grid = new Gridpeer();
        for (int stretch = 0; stretch < 5; stretch++) {
            Check.due("setLimit(.., 0)", grid.setLimit(stretch, 0), 100);
            Check.due("setLimit(.., 300)", grid.setLimit(stretch, 300), 0);
            Check.due("setLimit(.., stretch)", grid.setLimit(stretch, stretch), 300);
        }
        grid.clear();
        for (int stretch = 0; stretch < 5; stretch++) {
            Check.due("limit behind a clearing", grid.setLimit(stretch, 1), stretch);
        }
        firstLimitCuts();
    }

    private static void firstLimitCuts() {
        Gridpeer grid = new Gridpeer();
        for (int house = 0; house < 3; house++) {
            grid.meter(house, 50);
            grid.meter(house + 3, -50);
        }
        Check.due("clear() at the first limit of 100", grid.clear(), 100);
        Check.due("flow(2) at the first limit", grid.flow(2), 100);
        Check.due("went(CUT) at the first limit", grid.went(Gridpeer.CUT), 50);
    }

    private static void limitsWrong() {
        Gridpeer grid = new Gridpeer();
        grid.setLimit(2, 9);
        for (int stretch : NO_STRETCHES) {
            Check.outOfBounds("setLimit(" + stretch + ", 1)", () -> grid.setLimit(stretch, 1));
            Check.outOfBounds("setLimit(" + stretch + ", 301)", () -> grid.setLimit(stretch, 301));
        }
        for (int units : new int[] {-1, 301, Integer.MIN_VALUE, Integer.MAX_VALUE}) {
            Check.badArgument("setLimit(2, " + units + ")", () -> grid.setLimit(2, units));
        }
        Check.due("setLimit(2, 0)", grid.setLimit(2, 0), 9);
    }

    private static void supplier() {
        Check.due("supplied() at the first prices", suppliedFor(new Gridpeer()), 3 * 30 - 5 * 4);
        int[][] pairs = {{1, 0}, {1, 1}, {100, 0}, {100, 100}, {17, 3}};
        for (int[] pair : pairs) {
            Gridpeer grid = new Gridpeer();
            grid.setSupplier(pair[0], pair[1]);
            Check.due("supplied() at " + pair[0] + " and " + pair[1], suppliedFor(grid), 3 * pair[0] - 5 * pair[1]);
        }
    }

    /** What the supplier has got when 3 units were bought from it and 5 sold to it. */
    private static int suppliedFor(Gridpeer grid) {
        grid.setPrice(0, 20);
        grid.meter(0, 25);
        grid.meter(5, -3);
        grid.clear();
        return grid.supplied();
    }

    private static void supplierWrong() {
        Gridpeer grid = new Gridpeer();
        grid.setSupplier(17, 3);
        int[][] pairs = {
            {0, 0}, {-1, -1}, {101, 0}, {101, 101}, {1, -1}, {1, 2}, {50, 51}, {100, 101}, {0, 1},
            {Integer.MIN_VALUE, 0}, {Integer.MAX_VALUE, 0}, {50, Integer.MIN_VALUE}, {50, Integer.MAX_VALUE},
        };
        for (int[] pair : pairs) {
            Check.badArgument("setSupplier(" + pair[0] + ", " + pair[1] + ")", () -> {
                grid.setSupplier(pair[0], pair[1]);
                return 0;
            });
        }
        Check.due("supplied() behind wrong prices", suppliedFor(grid), 3 * 17 - 5 * 3);
    }
}
