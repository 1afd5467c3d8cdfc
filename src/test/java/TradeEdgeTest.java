/** Step 1 of a clearing at its edges, sentence by sentence: who trades with whom, how much and for what. */
public final class TradeEdgeTest {
    public static void main(String[] args) {
        buyersAreBelowZero();
        sellersAreAboveZero();
        nobodyTellsAnything();
        buyersByFallingPrices();
        buyersOfOnePriceByRisingNumbers();
        buyerTakesAsLongAsItNeedsSome();
        sellerWithNothingLeftIsPassedBy();
        sellerWithTheLowestPrice();
        sellersPriceIsAtMostTheBuyers();
        nearestOfOnePrice();
        lowestOfThoseAsNear();
        asManyUnitsAsBothCan();
        halfOfBothPricesRoundedDown();
        whoLeftNeitherBuysNorSells();
        mostTradesOfOneClearing();
        Check.end();
    }

    private static void buyersAreBelowZero() {
        Check.sentence("Buyers are the members whose meter is below 0");
        for (int house = 1; house < 6; house++) {
            Gridpeer none = Grids.told(9);
            Grids.tellOne(none, house, 0);
            Check.due("clear() with a meter 0", none.clear(), 0);
            Check.due("trades() with a meter 0", none.trades(), 0);
            Gridpeer one = Grids.told(9);
            Grids.tellOne(one, house, -1);
            Check.due("clear() with a meter -1", one.clear(), 1);
            Check.trade(one, 0, 0, house, 1, 10);
        }
        Gridpeer alone = Grids.told(-50, -50, -50, -50, -50, -50);
        Check.due("clear() of buyers alone", alone.clear(), 0);
        Check.due("went(BOUGHT) of buyers alone", alone.went(Gridpeer.BOUGHT), 300);
    }

    private static void sellersAreAboveZero() {
        Check.sentence("Sellers are the members whose meter is above 0");
        for (int house = 0; house < 5; house++) {
            Gridpeer none = Grids.told(0, 0, 0, 0, 0, -9);
            Check.due("clear() with a meter 0", none.clear(), 0);
            Gridpeer one = Grids.told(0, 0, 0, 0, 0, -9);
            Grids.tellOne(one, house, 1);
            Check.due("clear() with a meter 1", one.clear(), 1);
            Check.due("trades() with a meter 1", one.trades(), 1);
            Check.trade(one, 0, house, 5, 1, 10);
        }
        Gridpeer alone = Grids.told(50, 50, 50, 50, 50, 50);
        Check.due("clear() of sellers alone", alone.clear(), 0);
        Check.due("went(STORED) of sellers alone", alone.went(Gridpeer.STORED), 120);
        Check.due("went(SOLD) of sellers alone", alone.went(Gridpeer.SOLD), 180);
    }

    private static void nobodyTellsAnything() {
        Check.sentence("both are 0 when a quarter hour begins");
        Gridpeer grid = new Gridpeer();
        Check.due("clear() of nothing", grid.clear(), 0);
        Check.due("trades() of nothing", grid.trades(), 0);
        Check.due("pool()", grid.pool(), 0);
        Check.due("supplied()", grid.supplied(), 0);
        for (int house = 0; house < 6; house++) {
            Check.due("bill(" + house + ") of nothing", grid.bill(house), 0);
        }
    }

    private static void buyersByFallingPrices() {
        Check.sentence("they are gone through by falling prices");
        Gridpeer grid = Grids.told(new int[] {-1, -1, 5, -1, -1, -1}, new int[] {0, 50, 0, 51, 100, 99});
        grid.clear();
        int[] buyers = {4, 5, 3, 1, 0};
        int[] prices = {50, 49, 25, 25, 0};
        for (int trade = 0; trade < 5; trade++) {
            Check.trade(grid, trade, 2, buyers[trade], 1, prices[trade]);
        }
        Gridpeer short1 = Grids.told(new int[] {-9, 9, -9, 0, 0, 0}, new int[] {10, 10, 11, 10, 10, 10});
        short1.clear();
        Check.due("trades() when the dearer buyer takes all", short1.trades(), 1);
        Check.trade(short1, 0, 1, 2, 9, 10);
    }

    private static void buyersOfOnePriceByRisingNumbers() {
        Check.sentence("those of the same price by rising numbers");
        Gridpeer grid = Grids.told(-2, -2, -2, -2, -2, 9);
        grid.clear();
        for (int trade = 0; trade < 5; trade++) {
            Check.trade(grid, trade, 5, trade, trade < 4 ? 2 : 1, 10);
        }
    }

    private static void buyerTakesAsLongAsItNeedsSome() {
        Check.sentence("A buyer takes units, as long as it needs some");
        Gridpeer grid = Grids.told(2, 2, -4, 2, 2, 2);
        Check.due("clear()", grid.clear(), 4);
        Check.due("trades()", grid.trades(), 2);
        Check.trade(grid, 0, 1, 2, 2, 10);
        Check.trade(grid, 1, 3, 2, 2, 10);
        Gridpeer more = Grids.told(2, 2, -5, 2, 2, 2);
        Check.due("clear() of one more", more.clear(), 5);
        Check.due("trades() of one more", more.trades(), 3);
        Check.trade(more, 2, 0, 2, 1, 10);
        Gridpeer all = Grids.told(2, 2, -11, 2, 2, 2);
        Check.due("clear() of more than there is", all.clear(), 10);
        Check.due("went(BOUGHT)", all.went(Gridpeer.BOUGHT), 1);
    }

    private static void sellerWithNothingLeftIsPassedBy() {
        Check.sentence("from the seller with the lowest price that has some left");
        Gridpeer grid = Grids.told(new int[] {4, -4, 3, -3, 0, 0}, new int[] {1, 50, 2, 40, 10, 10});
        Check.due("clear()", grid.clear(), 7);
        Check.due("trades()", grid.trades(), 2);
        Check.trade(grid, 0, 0, 1, 4, 25);
        Check.trade(grid, 1, 2, 3, 3, 21);
        Gridpeer none = Grids.told(4, -4, -3, 0, 0, 0);
        Check.due("clear() with nothing left", none.clear(), 4);
        Check.due("trades() with nothing left", none.trades(), 1);
    }

    private static void sellerWithTheLowestPrice() {
        Check.sentence("from the seller with the lowest price");
        Gridpeer grid = Grids.told(new int[] {3, 0, 0, 0, 3, -3}, new int[] {9, 10, 10, 10, 10, 10});
        grid.clear();
        Check.due("trades()", grid.trades(), 1);
        Check.trade(grid, 0, 0, 5, 3, 9);
        Gridpeer zero = Grids.told(new int[] {-3, 3, 0, 0, 0, 3}, new int[] {100, 1, 10, 10, 10, 0});
        zero.clear();
        Check.trade(zero, 0, 5, 0, 3, 50);
    }

    private static void sellersPriceIsAtMostTheBuyers() {
        Check.sentence("whose price is at most its own");
        for (int price : new int[] {0, 1, 10, 99, 100}) {
            int[] same = {price, price, 10, 10, 10, 10};
            Gridpeer equal = Grids.told(new int[] {5, -5, 0, 0, 0, 0}, same);
            Check.due("clear() at the same price " + price, equal.clear(), 5);
            Check.trade(equal, 0, 0, 1, 5, price);
            if (price > 0) {
                Gridpeer above = Grids.told(new int[] {5, -5, 0, 0, 0, 0}, same);
                above.setPrice(1, price - 1);
                Check.due("clear() with a seller one above", above.clear(), 0);
                Check.due("trades() with a seller one above", above.trades(), 0);
                Gridpeer below = Grids.told(new int[] {5, -5, 0, 0, 0, 0}, same);
                below.setPrice(0, price - 1);
                Check.due("clear() with a seller one below", below.clear(), 5);
            }
        }
        Gridpeer some = Grids.told(new int[] {2, 2, -6, 2, 0, 0}, new int[] {10, 12, 11, 11, 10, 10});
        Check.due("clear() with one of three above", some.clear(), 4);
        Check.trade(some, 0, 0, 2, 2, 10);
        Check.trade(some, 1, 3, 2, 2, 11);
    }

    private static void nearestOfOnePrice() {
        Check.sentence("of several the nearest one (by the difference of numbers)");
        Gridpeer low = Grids.told(-5, 1, 1, 1, 1, 1);
        low.clear();
        Gridpeer high = Grids.told(1, 1, 1, 1, 1, -5);
        high.clear();
        for (int trade = 0; trade < 5; trade++) {
            Check.trade(low, trade, trade + 1, 0, 1, 10);
            Check.trade(high, trade, 4 - trade, 5, 1, 10);
        }
        Gridpeer middle = Grids.told(1, 0, 0, -2, 0, 1);
        middle.clear();
        Check.trade(middle, 0, 5, 3, 1, 10);
        Check.trade(middle, 1, 0, 3, 1, 10);
    }

    private static void lowestOfThoseAsNear() {
        Check.sentence("of those the lowest");
        int[][] pairs = {{0, 1, 2}, {1, 2, 3}, {2, 3, 4}, {3, 4, 5}, {0, 2, 4}, {1, 3, 5}};
        for (int[] pair : pairs) {
            Gridpeer grid = new Gridpeer();
            Grids.tellOne(grid, pair[0], 5);
            Grids.tellOne(grid, pair[1], -6);
            Grids.tellOne(grid, pair[2], 5);
            grid.clear();
            Check.trade(grid, 0, pair[0], pair[1], 5, 10);
            Check.trade(grid, 1, pair[2], pair[1], 1, 10);
        }
    }

    private static void asManyUnitsAsBothCan() {
        Check.sentence("Each such taking, of as many units as both can, is a trade");
        int[][] rows = {{1, 1}, {1, 50}, {50, 1}, {49, 50}, {50, 49}, {50, 50}};
        for (int[] row : rows) {
            Gridpeer grid = Grids.told(row[0], -row[1]);
            int both = Math.min(row[0], row[1]);
            Check.due("clear() of " + row[0] + " and " + row[1], grid.clear(), both);
            Check.due("trades() of " + row[0] + " and " + row[1], grid.trades(), 1);
            Check.trade(grid, 0, 0, 1, both, 10);
            Check.due("went(BOUGHT)", grid.went(Gridpeer.BOUGHT), row[1] - both);
        }
    }

    private static void halfOfBothPricesRoundedDown() {
        Check.sentence("at half of both prices together; quotients are rounded down");
        int[][] rows = {
            {0, 0, 0}, {0, 1, 0}, {1, 1, 1}, {1, 2, 1}, {0, 99, 49}, {0, 100, 50}, {99, 100, 99}, {100, 100, 100},
        };
        for (int[] row : rows) {
            Gridpeer grid = Grids.told(new int[] {7, 0, 0, -7, 0, 0}, new int[] {row[0], 10, 10, row[1], 10, 10});
            grid.clear();
            Check.trade(grid, 0, 0, 3, 7, row[2]);
            Check.due("bill(3) at " + row[0] + " and " + row[1], grid.bill(3), 7 * row[2]);
            Check.due("bill(0) at " + row[0] + " and " + row[1], grid.bill(0), -7 * row[2]);
        }
    }

    private static void whoLeftNeitherBuysNorSells() {
        Check.sentence("it is a member no more, and its forecast and meter do not matter");
        Gridpeer grid = Grids.told(5, -5, 0, 0, 5, -5);
        grid.leave(0);
        grid.leave(5);
        Check.due("clear()", grid.clear(), 5);
        Check.due("trades()", grid.trades(), 1);
        Check.trade(grid, 0, 4, 1, 5, 10);
        Check.due("bill(0)", grid.bill(0), 0);
        Check.due("bill(5)", grid.bill(5), 0);
        for (int way = Gridpeer.CUT; way <= Gridpeer.SOLD; way++) {
            Check.due("went(" + way + ")", grid.went(way), 0);
        }
    }

    private static void mostTradesOfOneClearing() {
        Check.sentence("Each such taking is a trade");
        Gridpeer grid = Grids.told(3, 6, 9, -4, -7, -7);
        Check.due("clear()", grid.clear(), 18);
        Check.due("trades()", grid.trades(), 5);
        Check.trade(grid, 0, 2, 3, 4, 10);
        Check.trade(grid, 1, 2, 4, 5, 10);
        Check.trade(grid, 2, 1, 4, 2, 10);
        Check.trade(grid, 3, 1, 5, 4, 10);
        Check.trade(grid, 4, 0, 5, 3, 10);
        Check.outOfBounds("ofTrade(5, 0)", () -> grid.ofTrade(5, 0));
    }
}
