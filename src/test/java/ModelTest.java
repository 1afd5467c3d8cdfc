import java.util.Random;
import java.util.function.IntSupplier;

/** Runs of calls by chance, always the same ones, on the class and on the model side by side. */
public final class ModelTest {
    private static final int RUNS = 6000;
    // What an object answers behind these is free.
    private static final int CALLS = 512;
    private static final int DEAREST_STEP = 30;
    private static final int WHOLE_COMPARISON = 80;

    private final Random random;
    private final Gridpeer grid = new Gridpeer();
    private final Model model = new Model();
    private int made = 0;

    private ModelTest(int seed) {
        random = new Random(seed);
    }

    public static void main(String[] args) {
        for (int seed = 0; seed < RUNS; seed++) {
            new ModelTest(seed).run("seed " + seed + " call ");
        }
        Check.end();
    }

    private void run(String seed) {
        while (made + DEAREST_STEP + WHOLE_COMPARISON <= CALLS) {
            callOne(seed);
        }
        for (int part = 0; part < 4; part++) {
            compare(seed, part);
        }
        Check.due(seed + "calls made", made <= CALLS, true);
    }

    private int pick(int least, int most) {
        return least + random.nextInt(most - least + 1);
    }

    private void due(String at, IntSupplier body, int due) {
        made++;
        Check.due(at + made, body.getAsInt(), due);
    }

    private void badState(String at, IntSupplier body) {
        made++;
        Check.badState(at + made, body);
    }

    private void callOne(String seed) {
        int kind = random.nextInt(40);
        if (kind < 16) {
            tellMeter(seed + "meter ");
        } else if (kind < 20) {
            tellForecast(seed + "forecast ");
        } else if (kind < 25) {
            tellPrice(seed + "setPrice ");
        } else if (kind < 30) {
            tellLimit(seed + "setLimit ");
        } else if (kind < 31) {
            int sells = pick(1, 100);
            model.sells = sells;
            model.buys = pick(0, sells);
            made++;
            grid.setSupplier(model.sells, model.buys);
        } else if (kind < 34) {
            rent(seed + "rent ");
        } else if (kind == 34 && random.nextInt(12) == 0) {
            leave(seed + "leave ");
        } else if (kind >= 35) {
            due(seed + "mostTradable ", grid::mostTradable, model.mostTradable());
            due(seed + "clear ", grid::clear, model.clear());
            compare(seed, random.nextInt(4));
        }
    }

    private void tellMeter(String at) {
        int house = pick(0, 5);
        int units = pick(-50, 50);
        Model.House other = model.houses.get(house);
        if (!other.member) {
            badState(at, () -> grid.meter(house, units));
            return;
        }
        due(at, () -> grid.meter(house, units), other.meter);
        other.meter = units;
    }

    private void tellForecast(String at) {
        int house = pick(0, 5);
        int units = pick(-50, 50);
        Model.House other = model.houses.get(house);
        if (!other.member) {
            badState(at, () -> grid.forecast(house, units));
            return;
        }
        due(at, () -> grid.forecast(house, units), other.forecast);
        other.forecast = units;
    }

    private void tellPrice(String at) {
        int house = pick(0, 5);
        int price = random.nextInt(4) == 0 ? pick(0, 100) : pick(8, 12);
        due(at, () -> grid.setPrice(house, price), model.houses.get(house).price);
        model.houses.get(house).price = price;
    }

    private void tellLimit(String at) {
        int stretch = pick(0, 4);
        int units = random.nextInt(4) == 0 ? pick(0, 300) : pick(0, 20);
        due(at, () -> grid.setLimit(stretch, units), model.limits[stretch]);
        model.limits[stretch] = units;
    }

    private void rent(String at) {
        int house = pick(0, 5);
        int other = pick(0, 5);
        int units = pick(1, random.nextBoolean() ? 10 : 100);
        Model.House from = model.houses.get(house);
        if (house == other) {
            made++;
            Check.badArgument(at + made, () -> grid.rent(house, other, units));
        } else if (!from.member || !model.houses.get(other).member || from.part - units < from.stored) {
            badState(at, () -> grid.rent(house, other, units));
        } else {
            due(at, () -> grid.rent(house, other, units), model.rent(house, other, units));
        }
    }

    private void leave(String at) {
        int house = pick(0, 5);
        if (model.houses.get(house).member) {
            due(at, () -> grid.leave(house), model.leave(house));
        } else {
            badState(at, () -> grid.leave(house));
        }
    }

    /** Compares a fourth of all that can be asked: all of it behind each clearing would leave few calls to tell. */
    private void compare(String seed, int part) {
        if (part == 0) {
            compareHouses(seed);
        } else if (part == 1) {
            compareWires(seed);
        } else if (part == 2) {
            compareTrades(seed);
        } else {
            compareSums(seed);
        }
    }

    private void compareHouses(String seed) {
        for (Model.House house : model.houses) {
            due(seed + "isMember ", () -> grid.isMember(house.number) ? 1 : 0, house.member ? 1 : 0);
            due(seed + "stored ", () -> grid.stored(house.number), house.stored);
            due(seed + "part ", () -> grid.part(house.number), house.part);
            due(seed + "bill ", () -> grid.bill(house.number), house.bill);
        }
    }

    private void compareWires(String seed) {
        for (int stretch = 0; stretch < 5; stretch++) {
            int same = stretch;
            due(seed + "flow ", () -> grid.flow(same), model.flow(stretch));
        }
        for (int way = 0; way < 6; way++) {
            int same = way;
            due(seed + "went ", () -> grid.went(same), model.went[way]);
        }
    }

    private void compareTrades(String seed) {
        int trades = model.trades.size();
        due(seed + "trades ", grid::trades, trades);
        for (int trade = 0; trade < trades; trade++) {
            int same = trade;
            Model.Trade other = model.trades.get(trade);
            due(seed + "seller ", () -> grid.ofTrade(same, 0), other.seller.number);
            due(seed + "buyer ", () -> grid.ofTrade(same, 1), other.buyer.number);
            due(seed + "units left ", () -> grid.ofTrade(same, 2), other.units);
            due(seed + "price ", () -> grid.ofTrade(same, 3), other.price);
        }
    }

    private void compareSums(String seed) {
        due(seed + "quarter ", grid::quarter, model.quarter);
        int bills = 0;
        for (int house = 0; house < 6; house++) {
            made++;
            bills += grid.bill(house);
        }
        made += 2;
        Check.due(seed + made + ": no cent comes from nowhere", bills, grid.pool() + grid.supplied());
        due(seed + "pool ", grid::pool, model.pool);
        due(seed + "supplied ", grid::supplied, model.supplied);
    }
}
