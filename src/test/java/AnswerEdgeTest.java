/** What clear, mostTradable and the asking calls answer at their edges, sentence by sentence (promises 9 to 21). */
public final class AnswerEdgeTest {
    public static void main(String[] args) {
        clearAnswersWhatIsLeftBehindCuts();
        clearWorksUntilTheFiveHundredth();
        tellingAndAskingGoOnBehindFiveHundred();
        quarterCountsClearings();
        mostTradableOfNobody();
        mostTradableAllowsTheSamePrice();
        mostTradableIsBoundByBuyersOrSellers();
        mostTradableIsBoundByASetOfBuyers();
        mostTradableTakesTheBestMatch();
        mostTradableIsWithoutLimits();
        mostTradableIsOfWhatIsTold();
        mostTradablePassesByWhoLeft();
        mostTradableChangesNothing();
        tradesCountsThoseThatWereCut();
        tradesAreOfTheLastClearing();
        ofTradeTellsInTheOrderMade();
        wentIsZeroAtFirst();
        wentTellsEachWay();
        flowIsZeroAtFirst();
        flowIsBehindTheCuts();
        lastClearingStaysAsItWas();
        isMemberOfWhoLeft();
        storedOfWhoLeft();
        partOfWhoLeft();
        billOfWhoLeft();
        billIsAllThatWasPaid();
        poolIsOfAllQuarterHours();
        suppliedIsOfAllQuarterHours();
        Check.end();
    }

    private static void clearAnswersWhatIsLeftBehindCuts() {
        Check.sentence("9: Returns how many units are traded, cut ones not counted");
        for (int limit : new int[] {0, 1, 6, 7, 8}) {
            Gridpeer grid = Grids.told(0, 7, -7, 0, 4, -4);
            grid.setLimit(1, limit);
            Check.due("clear() at the limit " + limit, grid.clear(), 4 + Math.min(7, limit));
        }
        Check.due("clear() of nothing", new Gridpeer().clear(), 0);
        Gridpeer most = Grids.told(50, -50, 50, -50, 50, -50);
        Check.due("clear() of all", most.clear(), 150);
    }

    private static void clearWorksUntilTheFiveHundredth() {
        Check.sentence("9: IllegalStateException if 500 were cleared");
        Gridpeer grid = new Gridpeer();
        for (int cleared = 0; cleared < 499; cleared++) {
            Check.due("clear()", grid.clear(), 0);
        }
        Grids.tell(grid, 3, -3);
        Check.due("quarter() before the last", grid.quarter(), 499);
        Check.due("clear() for the 500th time", grid.clear(), 3);
        Check.due("quarter() behind the last", grid.quarter(), 500);
        Check.badState("clear() for the 501st time", grid::clear);
        Check.due("trades() of the last", grid.trades(), 1);
    }

    private static void tellingAndAskingGoOnBehindFiveHundred() {
        Check.sentence("9: IllegalStateException if 500 were cleared (clear alone has this limit)");
        Gridpeer grid = Grids.old();
        Check.due("meter(0, 7)", grid.meter(0, 7), 5);
        Check.due("forecast(1, 3)", grid.forecast(1, 3), 2);
        Check.due("setPrice(1, 12)", grid.setPrice(1, 12), 10);
        Check.due("setLimit(1, 12)", grid.setLimit(1, 12), 100);
        grid.setSupplier(5, 5);
        Check.due("mostTradable()", grid.mostTradable(), 3);
        Check.due("rent(0, 1, 2)", grid.rent(0, 1, 2), 22);
        Check.due("leave(0)", grid.leave(0), 0);
        Check.due("quarter()", grid.quarter(), 500);
    }

    private static void quarterCountsClearings() {
        Check.sentence("10: Returns how many quarter hours were cleared");
        Gridpeer grid = new Gridpeer();
        for (int cleared = 0; cleared < 255; cleared++) {
            Check.due("quarter()", grid.quarter(), cleared);
            grid.clear();
        }
        // Only now and then, as no more than 512 calls of one object are promised.
        Gridpeer old = new Gridpeer();
        for (int cleared = 0; cleared < 500; cleared++) {
            if (cleared % 100 == 99) {
                Check.due("quarter()", old.quarter(), cleared);
            }
            old.clear();
        }
        Check.due("quarter()", old.quarter(), 500);
        Check.badState("clear()", old::clear);
        Check.due("quarter() behind a refused call", old.quarter(), 500);
    }

    private static void dueMost(int due, int[] meters, int[] prices) {
        Gridpeer grid = Grids.told(meters, prices);
        Check.due("mostTradable()", grid.mostTradable(), due);
    }

    private static void mostTradableOfNobody() {
        Check.sentence("11: how many units could be traded at the most (nobody sells or nobody buys)");
        Check.due("mostTradable() of a new object", new Gridpeer().mostTradable(), 0);
        Check.due("mostTradable() of sellers alone", Grids.told(50, 50, 50, 50, 50, 50).mostTradable(), 0);
        Check.due("mostTradable() of buyers alone", Grids.told(-50, -50, -50, -50, -50, -50).mostTradable(), 0);
        Check.due("mostTradable() of one unit", Grids.told(0, 0, 1, 0, -1, 0).mostTradable(), 1);
        Check.due("mostTradable() of the most", Grids.told(50, -50, 50, -50, -50, 50).mostTradable(), 150);
    }

    private static void mostTradableAllowsTheSamePrice() {
        Check.sentence("11: buyers and sellers whose prices allow it");
        for (int price : new int[] {0, 1, 50, 99, 100}) {
            int[] meters = {0, 4, 0, 0, -4, 0};
            dueMost(4, meters, new int[] {10, price, 10, 10, price, 10});
            if (price > 0) {
                dueMost(0, meters, new int[] {10, price, 10, 10, price - 1, 10});
                dueMost(4, meters, new int[] {10, price - 1, 10, 10, price, 10});
            }
        }
    }

    private static void mostTradableIsBoundByBuyersOrSellers() {
        Check.sentence("11: by all ways to match buyers and sellers");
        int[] prices = {10, 10, 10, 10, 10, 10};
        dueMost(5, new int[] {50, 50, 50, 50, 50, -5}, prices);
        dueMost(5, new int[] {-50, -50, -50, -50, -50, 5}, prices);
        dueMost(50, new int[] {10, 10, 10, 10, 10, -50}, prices);
        dueMost(49, new int[] {10, 10, 9, 10, 10, -50}, prices);
        dueMost(50, new int[] {-10, 50, -10, -10, -10, -10}, prices);
        dueMost(49, new int[] {-10, 50, -10, -10, -9, -10}, prices);
    }

    private static void mostTradableIsBoundByASetOfBuyers() {
        Check.sentence("11: found over all sets of buyers");
        // Each set of one buyer who may take nothing, of two who may take from one seller alone, and so on.
        for (int buyer = 0; buyer < 6; buyer++) {
            int[] meters = {4, 4, 4, 4, 4, 4};
            int[] prices = {10, 10, 10, 10, 10, 10};
            meters[buyer] = -7;
            prices[buyer] = 9;
            dueMost(0, meters, prices);
            prices[buyer] = 10;
            dueMost(7, meters, prices);
        }
        int[] meters = {3, -9, -9, 30, -9, 2};
        dueMost(3, meters, new int[] {5, 5, 5, 10, 5, 10});
        dueMost(3 + 9, meters, new int[] {5, 5, 5, 10, 10, 10});
        dueMost(3 + 18, meters, new int[] {5, 5, 10, 10, 10, 10});
        dueMost(27, meters, new int[] {5, 10, 10, 10, 10, 10});
        dueMost(5 + 9, meters, new int[] {5, 5, 10, 12, 12, 10});
        dueMost(5 + 9, meters, new int[] {5, 10, 10, 12, 12, 5});
    }

    private static void mostTradableTakesTheBestMatch() {
        Check.sentence("11: how many units could be traded at the most (more than a clearing trades)");
        Gridpeer grid = Grids.told(new int[] {10, 10, 0, 0, -10, -10}, new int[] {5, 40, 10, 10, 10, 50});
        Check.due("mostTradable()", grid.mostTradable(), 20);
        Check.due("clear()", grid.clear(), 10);
        Gridpeer chain = Grids.told(new int[] {5, 5, 5, -5, -5, -5}, new int[] {1, 2, 3, 1, 2, 3});
        Check.due("mostTradable() of a chain", chain.mostTradable(), 15);
        Check.due("clear() of a chain", chain.clear(), 10);
    }

    private static void mostTradableIsWithoutLimits() {
        Check.sentence("11: without limits");
        Gridpeer grid = Grids.told(0, 8, -8, 0, 0, 0);
        for (int stretch = 0; stretch < 5; stretch++) {
            grid.setLimit(stretch, 0);
        }
        Check.due("mostTradable() at limits 0", grid.mostTradable(), 8);
        Check.due("clear() at limits 0", grid.clear(), 0);
    }

    private static void mostTradableIsOfWhatIsTold() {
        Check.sentence("11: in this quarter hour, as told by now");
        Gridpeer grid = new Gridpeer();
        grid.meter(0, 6);
        grid.meter(5, -4);
        Check.due("mostTradable()", grid.mostTradable(), 4);
        grid.forecast(0, -6);
        grid.forecast(5, 50);
        Check.due("mostTradable() with forecasts", grid.mostTradable(), 4);
        grid.meter(5, -6);
        Check.due("mostTradable() with another meter", grid.mostTradable(), 6);
        grid.setPrice(0, 11);
        Check.due("mostTradable() with another price", grid.mostTradable(), 0);
        grid.setPrice(5, 11);
        Check.due("mostTradable() with both prices", grid.mostTradable(), 6);
        grid.meter(0, 0);
        Check.due("mostTradable() with a meter 0", grid.mostTradable(), 0);
        grid.meter(0, 6);
        grid.clear();
        Check.due("mostTradable() of the next quarter hour", grid.mostTradable(), 0);
        Gridpeer storing = Grids.withStore(0, 20);
        storing.meter(1, -5);
        Check.due("mostTradable() with stored units", storing.mostTradable(), 0);
    }

    private static void mostTradablePassesByWhoLeft() {
        Check.sentence("it is a member no more, and its forecast and meter do not matter");
        Gridpeer seller = Grids.told(3, -9, 5, 0, 0, 0);
        seller.leave(0);
        Check.due("mostTradable() when a seller left", seller.mostTradable(), 5);
        Gridpeer buyer = Grids.told(-3, 9, -5, 0, 0, 0);
        buyer.leave(2);
        Check.due("mostTradable() when a buyer left", buyer.mostTradable(), 3);
        buyer.leave(0);
        Check.due("mostTradable() when all buyers left", buyer.mostTradable(), 0);
    }

    private static void mostTradableChangesNothing() {
        Check.sentence("11: Returns how many units could be traded");
        Gridpeer asked = Grids.rich();
        for (int time = 0; time < 3; time++) {
            Check.due("mostTradable() again", asked.mostTradable(), 16);
        }
        Check.due("all is as it was", Grids.wholeOf(asked).equals(Grids.wholeOf(Grids.rich())), true);
        Gridpeer told = Grids.told(3, -4, 5, -6, 7, -8);
        told.mostTradable();
        int[] meters = {3, -4, 5, -6, 7, -8};
        for (int house = 0; house < 6; house++) {
            Check.due("meter(" + house + ", 0) behind mostTradable()", told.meter(house, 0), meters[house]);
            Check.due("forecast(" + house + ", 0) behind mostTradable()", told.forecast(house, 0), meters[house]);
        }
    }

    private static void tradesCountsThoseThatWereCut() {
        Check.sentence("12: how many trades there were in the last clearing, those that were cut too");
        for (int limit : new int[] {0, 1, 4, 5, 9, 10}) {
            Gridpeer grid = Grids.told(5, 5, 0, 0, -5, -5);
            grid.setLimit(2, limit);
            grid.clear();
            Check.due("trades() at the limit " + limit, grid.trades(), 2);
            Check.trade(grid, 0, 1, 4, Math.min(5, limit), 10);
            Check.trade(grid, 1, 0, 5, Math.max(0, limit - 5), 10);
        }
    }

    private static void tradesAreOfTheLastClearing() {
        Check.sentence("12: in the last clearing");
        Gridpeer grid = new Gridpeer();
        Check.due("trades() before the first clearing", grid.trades(), 0);
        Check.outOfBounds("ofTrade(0, 0) before the first clearing", () -> grid.ofTrade(0, 0));
        Grids.tell(grid, 2, -1, -1);
        Check.due("trades() as told, not yet cleared", grid.trades(), 0);
        grid.clear();
        Check.due("trades() of two", grid.trades(), 2);
        Grids.tell(grid, 0, 0, 0, 0, -3, 4);
        Check.due("trades() while the next is told", grid.trades(), 2);
        grid.clear();
        Check.due("trades() of one", grid.trades(), 1);
        Check.trade(grid, 0, 5, 4, 3, 10);
        Check.outOfBounds("ofTrade(1, 0) of the clearing before", () -> grid.ofTrade(1, 0));
        grid.clear();
        Check.due("trades() of an empty clearing", grid.trades(), 0);
        Check.outOfBounds("ofTrade(0, 0) of an empty clearing", () -> grid.ofTrade(0, 0));
    }

    private static void ofTradeTellsInTheOrderMade() {
        Check.sentence("13: from 0, in the order in which they were made; what: 0 to 3");
        Gridpeer grid = Grids.told(new int[] {-1, -2, 9, -3, 0, 0}, new int[] {30, 50, 7, 40, 10, 10});
        grid.clear();
        Check.trade(grid, 0, 2, 1, 2, 28);
        Check.trade(grid, 1, 2, 3, 3, 23);
        Check.trade(grid, 2, 2, 0, 1, 18);
        Check.outOfBounds("ofTrade(3, 0)", () -> grid.ofTrade(3, 0));
        Check.outOfBounds("ofTrade(-1, 0)", () -> grid.ofTrade(-1, 0));
        Check.outOfBounds("ofTrade(2, 4)", () -> grid.ofTrade(2, 4));
        Check.outOfBounds("ofTrade(2, -1)", () -> grid.ofTrade(2, -1));
    }

    private static void wentIsZeroAtFirst() {
        Check.sentence("14: Returns the units; 0 before the first clearing");
        Gridpeer grid = Grids.told(50, -30, 7, -40, 0, 0);
        grid.setLimit(0, 1);
        for (int way = Gridpeer.TRADED; way <= Gridpeer.SOLD; way++) {
            Check.due("went(" + way + ") before the first clearing", grid.went(way), 0);
        }
    }

    private static void wentTellsEachWay() {
        Check.sentence("14: way: TRADED to SOLD; how many units went a way in the last clearing");
        Gridpeer grid = Grids.withStore(1, 3);
        Grids.tell(grid, 40, -12);
        grid.setLimit(0, 5);
        grid.clear();
        int[] went = {5, 7, 20, 3, 4, 15};
        for (int way = Gridpeer.TRADED; way <= Gridpeer.SOLD; way++) {
            Check.due("went(" + way + ")", grid.went(way), went[way]);
        }
        grid.clear();
        for (int way = Gridpeer.TRADED; way <= Gridpeer.SOLD; way++) {
            Check.due("went(" + way + ") of an empty clearing", grid.went(way), 0);
        }
    }

    private static void flowIsZeroAtFirst() {
        Check.sentence("15: Returns the flow; 0 before the first clearing");
        Gridpeer grid = Grids.told(5, 0, 0, 0, 0, -5);
        for (int stretch = 0; stretch < 5; stretch++) {
            Check.due("flow(" + stretch + ") before the first clearing", grid.flow(stretch), 0);
        }
        grid.clear();
        for (int stretch = 0; stretch < 5; stretch++) {
            Check.due("flow(" + stretch + ") behind it", grid.flow(stretch), 5);
        }
        grid.clear();
        for (int stretch = 0; stretch < 5; stretch++) {
            Check.due("flow(" + stretch + ") of an empty clearing", grid.flow(stretch), 0);
        }
    }

    private static void flowIsBehindTheCuts() {
        Check.sentence("15: the flow of a stretch in the last clearing, behind the cuts");
        Gridpeer grid = Grids.told(9, 0, -9, 0, 0, 0);
        grid.setLimit(1, 4);
        grid.clear();
        Check.due("flow(0)", grid.flow(0), 4);
        Check.due("flow(1)", grid.flow(1), 4);
        Check.due("flow(2)", grid.flow(2), 0);
    }

    private static void lastClearingStaysAsItWas() {
        Check.sentence("12 to 15: of the last clearing");
        Gridpeer grid = Grids.told(9, 0, -9, 0, 6, -5);
        grid.setLimit(1, 4);
        grid.clear();
        grid.setPrice(0, 90);
        grid.setPrice(2, 80);
        grid.setLimit(1, 0);
        grid.setSupplier(1, 1);
        grid.rent(2, 3, 20);
        grid.leave(0);
        grid.leave(5);
        grid.meter(2, 50);
        int[] went = {9, 5, 6, 0, 5, 0};
        for (int way = Gridpeer.TRADED; way <= Gridpeer.SOLD; way++) {
            Check.due("went(" + way + ")", grid.went(way), went[way]);
        }
        Check.due("trades()", grid.trades(), 2);
        Check.trade(grid, 0, 0, 2, 4, 10);
        Check.trade(grid, 1, 4, 5, 5, 10);
        Check.due("flow(0)", grid.flow(0), 4);
        Check.due("flow(4)", grid.flow(4), 5);
    }

    /** Who left behind two quarter hours: 20 units were stored, and 9 paid for a wrong forecast. */
    private static Gridpeer left(int house) {
        Gridpeer grid = Grids.withStore(house, 20);
        grid.forecast(house, 9);
        grid.clear();
        grid.leave(house);
        return grid;
    }

    private static void isMemberOfWhoLeft() {
        Check.sentence("16: Tells whether a house is a member");
        for (int house = 0; house < 6; house++) {
            Gridpeer grid = left(house);
            for (int other = 0; other < 6; other++) {
                Check.due("isMember(" + other + ")", grid.isMember(other), other != house);
            }
        }
    }

    private static void storedOfWhoLeft() {
        Check.sentence("17: Returns what a house has stored (nothing, when it was paid for it)");
        for (int house = 0; house < 6; house++) {
            Check.due("stored(" + house + ") of who left", left(house).stored(house), 0);
        }
    }

    private static void partOfWhoLeft() {
        Check.sentence("18: Returns the part of a house; 0 if it is no member");
        for (int house = 0; house < 6; house++) {
            Check.due("part(" + house + ") of who left", left(house).part(house), 0);
            Check.due("part of who stays", left(house).part((house + 1) % 6), 20);
        }
    }

    private static void billOfWhoLeft() {
        Check.sentence("19: Returns the bill of a house (it stays when the house leaves)");
        for (int house = 0; house < 6; house++) {
            Gridpeer grid = left(house);
            Check.due("bill(" + house + ") of who left", grid.bill(house), 9 - 80);
            grid.clear();
            Check.due("bill(" + house + ") of who left, later", grid.bill(house), 9 - 80);
        }
    }

    /** As many quarter hours, in each of which house 0 buys 3 units of the supplier and forecast one of them. */
    private static Gridpeer lacking(int quarters) {
        Gridpeer grid = new Gridpeer();
        for (int quarter = 0; quarter < quarters; quarter++) {
            grid.meter(0, -3);
            grid.forecast(0, -1);
            grid.clear();
        }
        return grid;
    }

    private static void billIsAllThatWasPaid() {
        Check.sentence("19: The bill of a house is all that it has paid, less what it got");
        for (int quarters = 0; quarters < 5; quarters++) {
            Check.due("bill(0) behind " + quarters, lacking(quarters).bill(0), quarters * (90 + 2));
        }
        Gridpeer grid = lacking(1);
        Grids.tellOne(grid, 0, 50);
        grid.clear();
        Check.due("bill(0) less what it got", grid.bill(0), 92 - 120);
    }

    private static void poolIsOfAllQuarterHours() {
        Check.sentence("20: Returns the pool");
        for (int quarters = 0; quarters < 5; quarters++) {
            Check.due("pool() behind " + quarters, lacking(quarters).pool(), quarters * 2);
        }
    }

    private static void suppliedIsOfAllQuarterHours() {
        Check.sentence("21: Returns what the supplier has got, less what it has paid");
        for (int quarters = 0; quarters < 5; quarters++) {
            Gridpeer grid = lacking(quarters);
            Check.due("supplied() behind " + quarters, grid.supplied(), quarters * 90);
            Grids.tellOne(grid, 1, 50);
            grid.clear();
            Check.due("supplied() less what it has paid", grid.supplied(), quarters * 90 - 120);
        }
    }
}
