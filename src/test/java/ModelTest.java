import java.util.Random;

/** Runs of calls by chance, always the same ones, on the class and on the model side by side. */
public final class ModelTest {
    private static final int RUNS = 3000;
    private static final int CALLS = 150;

    private final Random random;
    private final Gridpeer grid = new Gridpeer();
    private final Model model = new Model();

    private ModelTest(int seed) {
        random = new Random(seed);
    }

    public static void main(String[] args) {
        for (int seed = 0; seed < RUNS; seed++) {
            ModelTest run = new ModelTest(seed);
            for (int call = 0; call < CALLS; call++) {
                run.callOne("seed " + seed + " call " + call + " ");
            }
        }
        Check.end();
    }

    private int pick(int least, int most) {
        return least + random.nextInt(most - least + 1);
    }

    private void callOne(String at) {
        int kind = random.nextInt(40);
        if (kind < 16) {
            tellMeter(at);
        } else if (kind < 20) {
            tellForecast(at);
        } else if (kind < 25) {
            tellPrice(at);
        } else if (kind < 30) {
            tellLimit(at);
        } else if (kind < 31) {
            int sells = pick(1, 100);
            model.sells = sells;
            model.buys = pick(0, sells);
            grid.setSupplier(model.sells, model.buys);
        } else if (kind < 34) {
            rent(at);
        } else if (kind == 34 && random.nextInt(12) == 0) {
            leave(at);
        } else if (kind >= 35) {
            Check.due(at + "mostTradable()", grid.mostTradable(), model.mostTradable());
            Check.due(at + "clear()", grid.clear(), model.clear());
            compare(at);
        }
    }

    private void tellMeter(String at) {
        int house = pick(0, 5);
        int units = pick(-50, 50);
        Model.House other = model.houses.get(house);
        if (!other.member) {
            Check.badState(at + "meter", () -> grid.meter(house, units));
            return;
        }
        Check.due(at + "meter", grid.meter(house, units), other.meter);
        other.meter = units;
    }

    private void tellForecast(String at) {
        int house = pick(0, 5);
        int units = pick(-50, 50);
        Model.House other = model.houses.get(house);
        if (!other.member) {
            Check.badState(at + "forecast", () -> grid.forecast(house, units));
            return;
        }
        Check.due(at + "forecast", grid.forecast(house, units), other.forecast);
        other.forecast = units;
    }

    private void tellPrice(String at) {
        int house = pick(0, 5);
        int price = random.nextInt(4) == 0 ? pick(0, 100) : pick(8, 12);
        Check.due(at + "setPrice", grid.setPrice(house, price), model.houses.get(house).price);
        model.houses.get(house).price = price;
    }

    private void tellLimit(String at) {
        int stretch = pick(0, 4);
        int units = random.nextInt(4) == 0 ? pick(0, 300) : pick(0, 20);
        Check.due(at + "setLimit", grid.setLimit(stretch, units), model.limits[stretch]);
        model.limits[stretch] = units;
    }

    private void rent(String at) {
        int house = pick(0, 5);
        int other = pick(0, 5);
        int units = pick(1, random.nextBoolean() ? 10 : 100);
        Model.House from = model.houses.get(house);
        if (house == other) {
            Check.badArgument(at + "rent", () -> grid.rent(house, other, units));
        } else if (!from.member || !model.houses.get(other).member || from.part - units < from.stored) {
            Check.badState(at + "rent", () -> grid.rent(house, other, units));
        } else {
            Check.due(at + "rent", grid.rent(house, other, units), model.rent(house, other, units));
        }
    }

    private void leave(String at) {
        int house = pick(0, 5);
        if (model.houses.get(house).member) {
            Check.due(at + "leave", grid.leave(house), model.leave(house));
        } else {
            Check.badState(at + "leave", () -> grid.leave(house));
        }
    }

    private void compare(String at) {
        for (Model.House house : model.houses) {
            Check.due(at + "isMember", grid.isMember(house.number), house.member);
            Check.due(at + "stored", grid.stored(house.number), house.stored);
            Check.due(at + "part", grid.part(house.number), house.part);
            Check.due(at + "bill", grid.bill(house.number), house.bill);
        }
        for (int stretch = 0; stretch < 5; stretch++) {
            Check.due(at + "flow", grid.flow(stretch), model.flow(stretch));
        }
        for (int way = 0; way < 6; way++) {
            Check.due(at + "went", grid.went(way), model.went[way]);
        }
        Check.due(at + "trades", grid.trades(), model.trades.size());
        for (int trade = 0; trade < Math.min(grid.trades(), model.trades.size()); trade++) {
            Model.Trade other = model.trades.get(trade);
            Check.trade(grid, trade, other.seller.number, other.buyer.number, other.units, other.price);
        }
        Check.due(at + "pool", grid.pool(), model.pool);
        Check.due(at + "supplied", grid.supplied(), model.supplied);
        Check.due(at + "quarter", grid.quarter(), model.quarter);
        int bills = 0;
        for (int house = 0; house < 6; house++) {
            bills += grid.bill(house);
        }
        Check.due(at + "no cent comes from nowhere", bills, grid.pool() + grid.supplied());
    }
}
