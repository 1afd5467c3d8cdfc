/** Step 2 of a clearing at its edges, sentence by sentence: flows, limits and cuts. */
public final class CutEdgeTest {
    public static void main(String[] args) {
        flowIsUpLessDown();
        fromFourDownToZero();
        againAndAgain();
        againUntilNothingIsCut();
        aboveItsLimit();
        withoutItsSign();
        limitZero();
        limitThatNoFlowReaches();
        onlyTradesOverTheStretch();
        onlyTradesWithTheFlow();
        latestTradeFirst();
        latestTradeOfAsManyAsThereCanBe();
        latestTradeOfThisClearing();
        onlyTradesThatHaveUnitsLeft();
        asManyAsAboveOrAll();
        eachCutUnitCostsThePoolOne();
        buyerPaysWhatIsLeft();
        limitsStayForTheNextQuarterHour();
        Check.end();
    }

    private static void dueFlows(Gridpeer grid, int... flows) {
        for (int stretch = 0; stretch < 5; stretch++) {
            Check.due("flow(" + stretch + ")", grid.flow(stretch), flows[stretch]);
        }
    }

    private static void dueLeft(Gridpeer grid, int... units) {
        Check.due("trades()", grid.trades(), units.length);
        for (int trade = 0; trade < Math.min(grid.trades(), units.length); trade++) {
            Check.due("ofTrade(" + trade + ", 2)", grid.ofTrade(trade, 2), units[trade]);
        }
    }

    private static void flowIsUpLessDown() {
        Check.sentence("what trades send over it from lower to higher numbers, less what they send the other way");
        Gridpeer up = Grids.told(7, 0, 0, 0, 0, -7);
        up.clear();
        dueFlows(up, 7, 7, 7, 7, 7);
        Gridpeer down = Grids.told(-7, 0, 0, 0, 0, 7);
        down.clear();
        dueFlows(down, -7, -7, -7, -7, -7);
        // 0 -> 4 with 7 and 5 -> 1 with 7: over the stretches 1 to 3 nothing is left of both.
        int[] prices = {1, 50, 10, 10, 60, 2};
        Gridpeer both = Grids.told(new int[] {7, -7, 0, 0, -7, 7}, prices);
        both.clear();
        dueFlows(both, 7, 0, 0, 0, -7);
        Gridpeer limited = Grids.told(new int[] {7, -7, 0, 0, -7, 7}, prices);
        for (int stretch = 1; stretch < 4; stretch++) {
            limited.setLimit(stretch, 0);
        }
        Check.due("clear() at limits 0 where the flow is 0", limited.clear(), 14);
        Check.due("went(CUT) at limits 0 where the flow is 0", limited.went(Gridpeer.CUT), 0);
    }

    private static void fromFourDownToZero() {
        Check.sentence("The stretches are gone through from 4 down to 0");
        // Both trades go over the lower stretch, the earlier one goes on over the higher one: if the higher
        // stretch is looked at first, its cut brings the lower one within its limit too.
        for (int stretch = 1; stretch < 5; stretch++) {
            Gridpeer grid = new Gridpeer();
            Grids.tellOne(grid, stretch - 1, 10);
            Grids.tellOne(grid, stretch, -4);
            Grids.tellOne(grid, stretch + 1, -6);
            grid.setPrice(stretch + 1, 20);
            grid.setLimit(stretch, 2);
            grid.setLimit(stretch - 1, 6);
            Check.due("clear() at the stretches " + stretch + " and one below", grid.clear(), 6);
            dueLeft(grid, 2, 4);
            Check.due("went(CUT)", grid.went(Gridpeer.CUT), 4);
        }
    }

    private static void againAndAgain() {
        Check.sentence("again and again until nothing is cut any more");
        // The cut at the stretch 0 uncovers a flow the other way over the stretch 2, which came before.
        Gridpeer grid = Grids.told(new int[] {10, 0, -12, -10, 0, 12}, new int[] {10, 10, 15, 30, 10, 11});
        grid.setLimit(2, 2);
        grid.setLimit(0, 1);
        Check.due("clear()", grid.clear(), 4);
        dueLeft(grid, 1, 3);
        dueFlows(grid, 1, 1, -2, -3, -3);
    }

    private static void againUntilNothingIsCut() {
        Check.sentence("until nothing is cut any more");
        // 0 -> 5 and 4 -> 1 run against each other and 2 -> 1 over the stretch 1 alone: a cut at the stretch 3
        // leaves one unit too many at the stretch 1 and the other way round, some fifty times.
        Gridpeer grid = Grids.told(new int[] {50, -50, 3, 0, 47, -50}, new int[] {1, 50, 2, 10, 3, 60});
        grid.setLimit(3, 2);
        grid.setLimit(1, 0);
        Check.due("clear()", grid.clear(), 4);
        Check.trade(grid, 0, 0, 5, 2, 30);
        Check.trade(grid, 1, 2, 1, 2, 26);
        Check.trade(grid, 2, 4, 1, 0, 26);
        dueFlows(grid, 2, 0, 2, 2, 2);
        Check.due("went(CUT)", grid.went(Gridpeer.CUT), 96);
        Check.due("pool()", grid.pool(), -96);
    }

    private static void aboveItsLimit() {
        Check.sentence("as long as the flow of one is above its limit");
        for (int stretch = 0; stretch < 5; stretch++) {
            for (int limit : new int[] {0, 1, 8, 9, 10, 300}) {
                Gridpeer grid = Grids.told(9, 0, 0, 0, 0, -9);
                grid.setLimit(stretch, limit);
                int left = Math.min(9, limit);
                Check.due("clear() of 9 at the limit " + limit, grid.clear(), left);
                Check.due("went(CUT) of 9 at the limit " + limit, grid.went(Gridpeer.CUT), 9 - left);
                dueFlows(grid, left, left, left, left, left);
            }
        }
    }

    private static void withoutItsSign() {
        Check.sentence("without its sign, above its limit");
        for (int stretch = 0; stretch < 5; stretch++) {
            for (int limit : new int[] {0, 1, 8, 9, 10, 300}) {
                Gridpeer grid = Grids.told(-9, 0, 0, 0, 0, 9);
                grid.setLimit(stretch, limit);
                int left = Math.min(9, limit);
                Check.due("clear() of 9 down at the limit " + limit, grid.clear(), left);
                Check.due("went(CUT) of 9 down at the limit " + limit, grid.went(Gridpeer.CUT), 9 - left);
                dueFlows(grid, -left, -left, -left, -left, -left);
            }
        }
    }

    private static void limitZero() {
        Check.sentence("5: units: 0 to 300");
        Gridpeer grid = Grids.told(50, 50, 50, -50, -50, -50);
        for (int stretch = 0; stretch < 5; stretch++) {
            grid.setLimit(stretch, 0);
        }
        Check.due("clear() when nothing may flow", grid.clear(), 0);
        Check.due("trades()", grid.trades(), 3);
        Check.due("went(CUT)", grid.went(Gridpeer.CUT), 150);
        dueFlows(grid, 0, 0, 0, 0, 0);
        Check.due("went(STORED)", grid.went(Gridpeer.STORED), 60);
        Check.due("went(SOLD)", grid.went(Gridpeer.SOLD), 90);
        Check.due("went(BOUGHT)", grid.went(Gridpeer.BOUGHT), 150);
    }

    private static void limitThatNoFlowReaches() {
        Check.sentence("5: units: 0 to 300");
        for (int limit : new int[] {149, 150, 151, 300}) {
            Gridpeer grid = Grids.told(50, 50, 50, -50, -50, -50);
            grid.setLimit(2, limit);
            int left = Math.min(limit, 150);
            Check.due("clear() at the limit " + limit, grid.clear(), left);
            Check.due("flow(2) at the limit " + limit, grid.flow(2), left);
        }
    }

    private static void onlyTradesOverTheStretch() {
        Check.sentence("the latest trade that sends over it");
        // 2 -> 5 is earlier; 1 -> 0 and 3 -> 4 are later, but do not reach over the stretch 2.
        Gridpeer grid = Grids.told(new int[] {-5, 5, 5, 5, -5, -5}, new int[] {30, 2, 1, 3, 20, 40});
        grid.setLimit(2, 2);
        Check.due("clear()", grid.clear(), 12);
        Check.trade(grid, 0, 2, 5, 2, 20);
        Check.trade(grid, 1, 1, 0, 5, 16);
        Check.trade(grid, 2, 3, 4, 5, 11);
        // Right at the stretch: the houses on both sides of it reach over it, their other neighbours do not.
        Gridpeer near = Grids.told(new int[] {3, -3, 4, -4, 5, -5}, new int[] {1, 60, 2, 50, 3, 40});
        near.setLimit(2, 0);
        Check.due("clear() of neighbours", near.clear(), 8);
        dueLeft(near, 3, 0, 5);
        dueFlows(near, 3, 0, 0, 0, 5);
    }

    private static void onlyTradesWithTheFlow() {
        Check.sentence("sends over it with the flow");
        // 0 -> 3 with 9 is the earlier one, 5 -> 2 with 4 the later one, against the flow of 5.
        Gridpeer up = Grids.told(new int[] {9, 0, -4, -9, 0, 4}, new int[] {1, 10, 20, 30, 10, 2});
        up.setLimit(2, 3);
        Check.due("clear()", up.clear(), 11);
        dueLeft(up, 7, 4);
        dueFlows(up, 7, 7, 3, -4, -4);
        // The same the other way round: 5 -> 2 with 9 first, then 0 -> 3 with 4.
        Gridpeer down = Grids.told(new int[] {4, 0, -9, -4, 0, 9}, new int[] {2, 10, 30, 20, 10, 1});
        down.setLimit(2, 3);
        Check.due("clear()", down.clear(), 11);
        dueLeft(down, 7, 4);
        dueFlows(down, 4, 4, -3, -7, -7);
    }

    private static void latestTradeFirst() {
        Check.sentence("the latest trade");
        Gridpeer grid = Grids.told(new int[] {3, 3, 3, -3, -3, -3}, new int[] {10, 10, 10, 20, 19, 18});
        grid.setLimit(2, 8);
        grid.clear();
        dueLeft(grid, 3, 3, 2);
        // Lower numbers and prices do not matter for it, but the order in which trades were made.
        Gridpeer other = Grids.told(new int[] {3, 3, 3, -3, -3, -3}, new int[] {10, 10, 10, 18, 19, 20});
        other.setLimit(2, 8);
        other.clear();
        Check.due("buyer of the latest trade", other.ofTrade(2, 1), 3);
        dueLeft(other, 3, 3, 2);
    }

    private static void latestTradeOfAsManyAsThereCanBe() {
        Check.sentence("the latest trade");
        int[] left = {4, 5, 2, 4, 3};
        for (int limit = 18; limit >= 0; limit--) {
            Gridpeer grid = Grids.told(3, 6, 9, -4, -7, -7);
            grid.setLimit(2, limit);
            Check.due("clear() of five trades at the limit " + limit, grid.clear(), limit);
            dueLeft(grid, left);
            int last = 4;
            while (last > 0 && left[last] == 0) {
                last--;
            }
            left[last]--;
        }
    }

    private static void latestTradeOfThisClearing() {
        Check.sentence("the latest trade");
        Gridpeer grid = Grids.told(3, 6, 9, -4, -7, -7);
        grid.clear();
        Check.due("trades() of the clearing before", grid.trades(), 5);
        Grids.tell(grid, 5, 0, 0, 0, 0, -5);
        grid.setLimit(2, 1);
        Check.due("clear()", grid.clear(), 1);
        dueLeft(grid, 1);
        Check.due("went(CUT)", grid.went(Gridpeer.CUT), 4);
        Check.due("pool()", grid.pool(), -4);
    }

    private static void onlyTradesThatHaveUnitsLeft() {
        Check.sentence("and has units left");
        // Over the stretch 3 the latest trade 2 -> 4 loses all; over the stretch 2 the one before it is cut then.
        Gridpeer grid = Grids.told(new int[] {6, 0, 5, -6, -5, 0}, new int[] {1, 10, 2, 40, 30, 10});
        grid.setLimit(3, 0);
        grid.setLimit(2, 4);
        Check.due("clear()", grid.clear(), 4);
        dueLeft(grid, 4, 0);
        Check.due("went(CUT)", grid.went(Gridpeer.CUT), 5 + 2);
        Check.due("bill(2), cut off", grid.bill(2), -5);
        Check.due("bill(0), cut by two", grid.bill(0), -4 * 20 - 2);
    }

    private static void asManyAsAboveOrAll() {
        Check.sentence("loses as many units as are above the limit, or all it has");
        // Trades of 3, 4 and 5 units over the stretch 2, the last one latest.
        int[][] rows = {
            {12, 3, 4, 5}, {11, 3, 4, 4}, {8, 3, 4, 1}, {7, 3, 4, 0}, {6, 3, 3, 0}, {4, 3, 1, 0}, {3, 3, 0, 0},
            {2, 2, 0, 0}, {1, 1, 0, 0}, {0, 0, 0, 0},
        };
        for (int[] row : rows) {
            Gridpeer grid = Grids.told(new int[] {5, 4, 3, -3, -4, -5}, new int[] {3, 2, 1, 60, 50, 40});
            grid.setLimit(2, row[0]);
            Check.due("clear() at the limit " + row[0], grid.clear(), row[0]);
            dueLeft(grid, row[1], row[2], row[3]);
            Check.due("went(CUT) at the limit " + row[0], grid.went(Gridpeer.CUT), 12 - row[0]);
        }
    }

    private static void eachCutUnitCostsThePoolOne() {
        Check.sentence("Each unit that is cut costs the pool 1, which its seller gets");
        for (int limit = 0; limit <= 6; limit++) {
            Gridpeer grid = Grids.told(new int[] {6, -6, 0, 0, 0, 0}, new int[] {0, 0, 0, 0, 0, 0});
            grid.setLimit(0, limit);
            grid.setSupplier(1, 0);
            grid.clear();
            int cut = 6 - limit;
            Check.due("pool() with " + cut + " cut", grid.pool(), -cut);
            Check.due("bill(0) with " + cut + " cut", grid.bill(0), -cut);
            Check.due("bill(1) with " + cut + " cut", grid.bill(1), cut);
            Check.due("supplied() with " + cut + " cut", grid.supplied(), cut);
        }
    }

    private static void buyerPaysWhatIsLeft() {
        Check.sentence("For each unit that is left behind the cuts the buyer pays the seller its price");
        for (int limit = 0; limit <= 6; limit++) {
            Gridpeer grid = Grids.told(new int[] {6, -6, 0, 0, 0, 0}, new int[] {80, 91, 0, 0, 0, 0});
            grid.setLimit(0, limit);
            grid.setSupplier(1, 0);
            grid.clear();
            int cut = 6 - limit;
            Check.due("price", grid.ofTrade(0, 3), 85);
            Check.due("bill(0) with " + limit + " left", grid.bill(0), -85 * limit - cut);
            Check.due("bill(1) with " + limit + " left", grid.bill(1), 85 * limit + cut);
        }
    }

    private static void limitsStayForTheNextQuarterHour() {
        Check.sentence("Then the next quarter hour begins");
        Gridpeer grid = new Gridpeer();
        grid.setLimit(4, 2);
        for (int round = 1; round <= 3; round++) {
            Grids.tell(grid, 0, 0, 0, 0, 9, -9);
            Check.due("clear()", grid.clear(), 2);
            Check.due("went(CUT) of this one alone", grid.went(Gridpeer.CUT), 7);
            Check.due("flow(4) of this one alone", grid.flow(4), 2);
            Check.due("pool() of all", grid.pool(), -7 * round);
        }
    }
}
