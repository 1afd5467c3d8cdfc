/** Promises 9 to 15 and 19 to 21: clearing, what could be traded, the last clearing, bills and sums. */
public final class ClearingTest {
    public static void main(String[] args) {
        buyersByPriceThenNumber();
        sellersByPriceThenNearnessThenNumber();
        priceAllowsTrade();
        priceIsHalfRoundedDown();
        cutsTheLatestTradeWithTheFlow();
        cutsFromTheFarEnd();
        cutsAgainWhenACutUncoversAFlow();
        cutsDownwardFlow();
        goodsBehindCuts();
        forecastsAreStoredUpInThePool();
        sumsGoThroughSeveralQuarters();
        fiveHundredQuarters();
        mostTradableOverAllMatches();
        mostTradableIsOfNow();
        asksOfTheLastClearing();
        wrongAsks();
        Check.end();
    }

    private static void buyersByPriceThenNumber() {
        Gridpeer grid = Grids.told(new int[] {-2, -2, 6, -2, 0, -2}, new int[] {12, 20, 10, 20, 99, 30});
        Check.due("clear()", grid.clear(), 6);
        Check.due("trades()", grid.trades(), 3);
        Check.trade(grid, 0, 2, 5, 2, 20);
        Check.trade(grid, 1, 2, 1, 2, 15);
        Check.trade(grid, 2, 2, 3, 2, 15);
        Check.due("bill(0)", grid.bill(0), 60);
        Check.due("bill(1)", grid.bill(1), 30);
        Check.due("bill(2)", grid.bill(2), -100);
        Check.due("bill(3)", grid.bill(3), 30);
        Check.due("bill(5)", grid.bill(5), 40);
        Check.due("supplied()", grid.supplied(), 60);
    }

    private static void sellersByPriceThenNearnessThenNumber() {
        Gridpeer grid = Grids.told(new int[] {1, 1, 1, -9, 1, 1}, new int[] {10, 9, 10, 10, 10, 9});
        Check.due("clear()", grid.clear(), 5);
        Check.due("trades()", grid.trades(), 5);
        Check.trade(grid, 0, 1, 3, 1, 9);
        Check.trade(grid, 1, 5, 3, 1, 9);
        Check.trade(grid, 2, 2, 3, 1, 10);
        Check.trade(grid, 3, 4, 3, 1, 10);
        Check.trade(grid, 4, 0, 3, 1, 10);
        Check.due("flow(0)", grid.flow(0), 1);
        Check.due("flow(1)", grid.flow(1), 2);
        Check.due("flow(2)", grid.flow(2), 3);
        Check.due("flow(3)", grid.flow(3), -2);
        Check.due("flow(4)", grid.flow(4), -1);
        Check.due("went(BOUGHT)", grid.went(Gridpeer.BOUGHT), 4);
    }

    private static void priceAllowsTrade() {
        Gridpeer equal = Grids.told(new int[] {5, -5, 0, 0, 0, 0}, new int[] {0, 0, 10, 10, 10, 10});
        Check.due("clear() at the same price 0", equal.clear(), 5);
        Check.trade(equal, 0, 0, 1, 5, 0);
        Gridpeer above = Grids.told(new int[] {5, -5, 0, 0, 0, 0}, new int[] {11, 10, 10, 10, 10, 10});
        Check.due("clear() with a seller above", above.clear(), 0);
        Check.due("trades() with a seller above", above.trades(), 0);
        Check.due("went(STORED)", above.went(Gridpeer.STORED), 5);
        Check.due("went(BOUGHT)", above.went(Gridpeer.BOUGHT), 5);
        Gridpeer dear = Grids.told(new int[] {50, -50, 0, 0, 0, 0}, new int[] {100, 100, 10, 10, 10, 10});
        Check.due("clear() at the same price 100", dear.clear(), 50);
        Check.due("bill(1)", dear.bill(1), 5000);
        Check.due("bill(0)", dear.bill(0), -5000);
        Check.due("pool()", dear.pool(), 0);
    }

    private static void priceIsHalfRoundedDown() {
        Gridpeer grid = Grids.told(new int[] {3, 0, 0, 0, 0, -3}, new int[] {0, 10, 10, 10, 10, 99});
        grid.clear();
        Check.trade(grid, 0, 0, 5, 3, 49);
        Check.due("bill(0)", grid.bill(0), -147);
        Check.due("bill(5)", grid.bill(5), 147);
    }

    private static void cutsTheLatestTradeWithTheFlow() {
        // Over the stretch 2 go 0 -> 3 and 1 -> 4 upward, and 5 -> 2 downward.
        Gridpeer grid = Grids.told(new int[] {10, 10, -6, -10, -10, 6}, new int[] {10, 11, 9, 20, 19, 9});
        grid.setPrice(5, 1);
        grid.setPrice(2, 100);
        grid.setLimit(2, 3);
        Check.due("clear()", grid.clear(), 15);
        Check.due("trades()", grid.trades(), 3);
        Check.trade(grid, 0, 5, 2, 6, 50);
        Check.trade(grid, 1, 0, 3, 9, 15);
        Check.trade(grid, 2, 1, 4, 0, 15);
        Check.due("flow(2)", grid.flow(2), 3);
        Check.due("flow(0)", grid.flow(0), 9);
        Check.due("flow(4)", grid.flow(4), -6);
        Check.due("went(CUT)", grid.went(Gridpeer.CUT), 11);
        Check.due("pool()", grid.pool(), -11);
        Check.due("bill(1) gets the cut", grid.bill(1), -10);
        Check.due("bill(0)", grid.bill(0), -9 * 15 - 1);
        Check.due("stored(0)", grid.stored(0), 1);
        Check.due("stored(1)", grid.stored(1), 10);
        Check.due("bill(3)", grid.bill(3), 9 * 15 + 30);
        Check.due("bill(4)", grid.bill(4), 300);
    }

    private static void cutsFromTheFarEnd() {
        // From the far end the trade 0 -> 5 loses 4, and no more is to cut at the stretch 0.
        Gridpeer grid = Grids.told(new int[] {10, -4, 0, 0, 0, -6}, new int[] {10, 10, 10, 10, 10, 20});
        grid.setLimit(4, 2);
        grid.setLimit(0, 6);
        Check.due("clear()", grid.clear(), 6);
        Check.trade(grid, 0, 0, 5, 2, 15);
        Check.trade(grid, 1, 0, 1, 4, 10);
        Check.due("went(CUT)", grid.went(Gridpeer.CUT), 4);
    }

    private static void cutsAgainWhenACutUncoversAFlow() {
        // 0 -> 3 with 10 hides 10 of the flow 5 -> 2 over the stretch 2; the cut at the stretch 0 uncovers it.
        Gridpeer grid = Grids.told(new int[] {10, 0, -12, -10, 0, 12}, new int[] {10, 10, 15, 30, 10, 11});
        grid.setLimit(2, 2);
        grid.setLimit(0, 1);
        Check.due("clear()", grid.clear(), 4);
        Check.due("trades()", grid.trades(), 2);
        Check.trade(grid, 0, 0, 3, 1, 20);
        Check.trade(grid, 1, 5, 2, 3, 13);
        Check.due("flow(0)", grid.flow(0), 1);
        Check.due("flow(2)", grid.flow(2), -2);
        Check.due("flow(4)", grid.flow(4), -3);
        Check.due("went(CUT)", grid.went(Gridpeer.CUT), 18);
    }

    private static void cutsDownwardFlow() {
        Gridpeer grid = Grids.told(new int[] {-9, 0, 0, 0, 4, 5}, new int[] {10, 10, 10, 10, 10, 10});
        grid.setLimit(1, 3);
        Check.due("clear()", grid.clear(), 3);
        Check.trade(grid, 0, 4, 0, 3, 10);
        Check.trade(grid, 1, 5, 0, 0, 10);
        Check.due("trades() with one cut off", grid.trades(), 2);
        Check.due("flow(1)", grid.flow(1), -3);
        Check.due("flow(4)", grid.flow(4), 0);
        Gridpeer exact = Grids.told(new int[] {-9, 0, 0, 0, 4, 5}, new int[] {10, 10, 10, 10, 10, 10});
        exact.setLimit(1, 9);
        Check.due("clear() at the very limit", exact.clear(), 9);
        Check.due("went(CUT) at the very limit", exact.went(Gridpeer.CUT), 0);
    }

    private static void goodsBehindCuts() {
        Gridpeer grid = Grids.told(new int[] {0, 0, 0, 0, 0, 20}, new int[] {10, 10, 10, 10, 10, 10});
        grid.clear();
        Check.due("stored(5)", grid.stored(5), 20);
        grid.meter(0, 30);
        grid.forecast(0, 30);
        grid.meter(5, -35);
        grid.forecast(5, -35);
        grid.setLimit(3, 4);
        Check.due("clear()", grid.clear(), 4);
        Check.due("went(TRADED)", grid.went(Gridpeer.TRADED), 4);
        Check.due("went(CUT)", grid.went(Gridpeer.CUT), 26);
        Check.due("went(STORED)", grid.went(Gridpeer.STORED), 20);
        Check.due("went(SOLD)", grid.went(Gridpeer.SOLD), 6);
        Check.due("went(TAKEN)", grid.went(Gridpeer.TAKEN), 20);
        Check.due("went(BOUGHT)", grid.went(Gridpeer.BOUGHT), 11);
        Check.due("stored(0)", grid.stored(0), 20);
        Check.due("stored(5)", grid.stored(5), 0);
        Check.due("bill(0)", grid.bill(0), -4 * 10 - 26 - 6 * 4);
        Check.due("bill(5)", grid.bill(5), 4 * 10 + 20 * 2 + 5 + 11 * 30);
        Check.due("pool()", grid.pool(), -26 + 20 * 2 + 5);
        Check.due("supplied()", grid.supplied(), 11 * 30 - 6 * 4);
        grid.clear();
        Check.due("trades() of an empty clearing", grid.trades(), 0);
        Check.due("flow(3) of an empty clearing", grid.flow(3), 0);
        for (int way = 0; way < 6; way++) {
            Check.due("went(" + way + ") of an empty clearing", grid.went(way), 0);
        }
    }

    private static void forecastsAreStoredUpInThePool() {
        Gridpeer grid = new Gridpeer();
        grid.forecast(0, -50);
        grid.meter(0, 50);
        grid.forecast(1, 7);
        grid.forecast(2, -7);
        grid.meter(3, 4);
        grid.clear();
        Check.due("bill(0)", grid.bill(0), 100 - 30 * 4);
        Check.due("bill(1)", grid.bill(1), 7);
        Check.due("bill(2)", grid.bill(2), 7);
        Check.due("bill(3)", grid.bill(3), 4);
        Check.due("pool()", grid.pool(), 118);
        Check.due("supplied()", grid.supplied(), -120);
        grid.clear();
        Check.due("pool() of a quiet quarter hour", grid.pool(), 118);
    }

    private static void sumsGoThroughSeveralQuarters() {
        Gridpeer grid = new Gridpeer();
        for (int round = 1; round <= 3; round++) {
            grid.meter(0, -10);
            grid.forecast(0, -9);
            grid.clear();
            Check.due("quarter()", grid.quarter(), round);
            Check.due("bill(0)", grid.bill(0), 301 * round);
            Check.due("pool()", grid.pool(), round);
            Check.due("supplied()", grid.supplied(), 300 * round);
        }
    }

    private static void fiveHundredQuarters() {
        Gridpeer grid = new Gridpeer();
        for (int cleared = 0; cleared < 500; cleared++) {
            grid.clear();
        }
        Check.due("quarter()", grid.quarter(), 500);
        grid.meter(0, 5);
        grid.forecast(0, 1);
        Check.badState("clear() behind 500", grid::clear);
        Check.due("quarter() then", grid.quarter(), 500);
        Check.due("bill(0) then", grid.bill(0), 0);
        Check.due("meter(0, 0) then", grid.meter(0, 0), 5);
        Check.badState("clear() once more", grid::clear);
    }

    private static void mostTradableOverAllMatches() {
        // The dear buyer 5 takes the cheap seller 0 first, and the cheap buyer 4 is left without one.
        Gridpeer grid = Grids.told(new int[] {10, 10, 0, 0, -10, -10}, new int[] {5, 40, 10, 10, 10, 50});
        Check.due("mostTradable()", grid.mostTradable(), 20);
        Check.due("clear()", grid.clear(), 10);
        Gridpeer none = Grids.told(new int[] {10, -10, 0, 0, 0, 0}, new int[] {11, 10, 10, 10, 10, 10});
        Check.due("mostTradable() when no price allows", none.mostTradable(), 0);
        Gridpeer same = Grids.told(new int[] {10, -7, 0, 0, 0, 0}, new int[] {10, 10, 10, 10, 10, 10});
        same.setLimit(0, 0);
        Check.due("mostTradable() does not see limits", same.mostTradable(), 7);
        Check.due("clear() does", same.clear(), 0);
        Gridpeer full = Grids.told(new int[] {50, 50, 50, -50, -50, -50}, new int[] {0, 0, 0, 100, 100, 100});
        Check.due("mostTradable() of all", full.mostTradable(), 150);
        Gridpeer one = Grids.told(new int[] {-50, -50, -50, -50, -50, 50}, new int[] {9, 9, 10, 9, 9, 10});
        Check.due("mostTradable() of one buyer who may", one.mostTradable(), 50);
        one.meter(2, -3);
        Check.due("mostTradable() of one buyer who needs 3", one.mostTradable(), 3);
    }

    private static void mostTradableIsOfNow() {
        Gridpeer grid = new Gridpeer();
        grid.meter(0, 10);
        Check.due("mostTradable() without a buyer", grid.mostTradable(), 0);
        grid.meter(1, -4);
        Check.due("mostTradable() with a buyer", grid.mostTradable(), 4);
        grid.forecast(2, -50);
        Check.due("mostTradable() and a forecast", grid.mostTradable(), 4);
        grid.setPrice(1, 9);
        Check.due("mostTradable() at another price", grid.mostTradable(), 0);
        grid.setPrice(0, 9);
        grid.meter(2, -5);
        grid.setPrice(2, 0);
        Check.due("mostTradable() with a third", grid.mostTradable(), 4);
        grid.clear();
        Check.due("mostTradable() of the next quarter hour", grid.mostTradable(), 0);
    }

    private static void asksOfTheLastClearing() {
        Gridpeer grid = Grids.told(new int[] {6, -4, 0, 0, 0, 0}, new int[] {10, 10, 10, 10, 10, 10});
        grid.clear();
        String before = Check.stateOf(grid);
        Check.due("trades()", grid.trades(), 1);
        grid.meter(0, 0);
        grid.leave(1);
        grid.setPrice(0, 77);
        grid.setLimit(0, 0);
        grid.setSupplier(9, 9);
        Check.trade(grid, 0, 0, 1, 4, 10);
        Check.due("flow(0)", grid.flow(0), 4);
        Check.due("went(TRADED)", grid.went(Gridpeer.TRADED), 4);
        Check.due("went(STORED)", grid.went(Gridpeer.STORED), 2);
        Check.due("all was told", before.isEmpty(), false);
    }

    private static void wrongAsks() {
        Gridpeer fresh = new Gridpeer();
        Check.outOfBounds("ofTrade(0, 0) before the first clearing", () -> fresh.ofTrade(0, 0));
        Gridpeer grid = Grids.told(new int[] {6, -4, -2, 0, 0, 0}, new int[] {10, 10, 10, 10, 10, 10});
        grid.clear();
        String before = Check.stateOf(grid);
        int[] extremes = {-1, Integer.MIN_VALUE, Integer.MAX_VALUE};
        for (int wrong : extremes) {
            Check.outOfBounds("ofTrade(" + wrong + ", 0)", () -> grid.ofTrade(wrong, 0));
            Check.outOfBounds("ofTrade(0, " + wrong + ")", () -> grid.ofTrade(0, wrong));
            Check.outOfBounds("went(" + wrong + ")", () -> grid.went(wrong));
            Check.outOfBounds("flow(" + wrong + ")", () -> grid.flow(wrong));
        }
        Check.outOfBounds("ofTrade(2, 0)", () -> grid.ofTrade(2, 0));
        Check.outOfBounds("ofTrade(1, 4)", () -> grid.ofTrade(1, 4));
        Check.outOfBounds("went(6)", () -> grid.went(6));
        Check.outOfBounds("flow(5)", () -> grid.flow(5));
        Check.unchanged("wrong asks", before, grid);
        grid.clear();
        Check.outOfBounds("ofTrade(0, 0) behind an empty clearing", () -> grid.ofTrade(0, 0));
    }
}
