import java.util.ArrayList;
import java.util.Comparator;
import java.util.List;

/** The document once more, unit by unit and with the whole Java library, to compare the class with. */
final class Model {
    static final class House {
        int number;
        int price = 10;
        int meter;
        int forecast;
        int part = 20;
        int stored;
        int bill;
        int need;
        int give;
        boolean member = true;
    }

    static final class Trade {
        House seller;
        House buyer;
        int units;
        int price;

        boolean goesUpOver(int stretch) {
            return seller.number <= stretch && stretch + 1 <= buyer.number;
        }

        boolean goesDownOver(int stretch) {
            return buyer.number <= stretch && stretch + 1 <= seller.number;
        }
    }

    final List<House> houses = new ArrayList<>();
    final int[] limits = {100, 100, 100, 100, 100};
    final int[] went = new int[6];
    List<Trade> trades = new ArrayList<>();
    int sells = 30;
    int buys = 4;
    int pool;
    int supplied;
    int quarter;

    Model() {
        for (int number = 0; number < 6; number++) {
            House house = new House();
            house.number = number;
            houses.add(house);
        }
    }

    int rent(int house, int other, int units) {
        houses.get(house).part -= units;
        return houses.get(other).part += units;
    }

    int leave(int number) {
        House house = houses.get(number);
        int gets = house.stored * buys;
        house.bill -= gets;
        pool -= gets;
        house.member = false;
        house.part = 0;
        house.stored = 0;
        house.meter = 0;
        house.forecast = 0;
        return gets;
    }

    int flow(int stretch) {
        int flow = 0;
        for (Trade trade : trades) {
            flow += trade.goesUpOver(stretch) ? trade.units : trade.goesDownOver(stretch) ? -trade.units : 0;
        }
        return flow;
    }

    int clear() {
        java.util.Arrays.fill(went, 0);
        trades = new ArrayList<>();
        for (House house : houses) {
            house.need = Math.max(0, -house.meter);
            house.give = Math.max(0, house.meter);
        }
        trade();
        cut();
        for (Trade trade : trades) {
            trade.buyer.bill += trade.units * trade.price;
            trade.seller.bill -= trade.units * trade.price;
            went[0] += trade.units;
        }
        for (House house : houses) {
            battery(house);
            supplier(house);
            int miss = Math.abs(house.meter - house.forecast);
            house.bill += miss;
            pool += miss;
            house.meter = 0;
            house.forecast = 0;
        }
        quarter++;
        return went[0];
    }

    private void trade() {
        List<House> buyers = new ArrayList<>(houses);
        buyers.removeIf(house -> house.meter >= 0);
        buyers.sort(Comparator.comparingInt((House house) -> -house.price).thenComparingInt(house -> house.number));
        for (House buyer : buyers) {
            List<House> sellers = new ArrayList<>(houses);
            sellers.removeIf(house -> house.give == 0 || house.price > buyer.price);
            sellers.sort(Comparator.comparingInt((House house) -> house.price)
                    .thenComparingInt(house -> Math.abs(house.number - buyer.number))
                    .thenComparingInt(house -> house.number));
            for (House seller : sellers) {
                Trade trade = new Trade();
                trade.seller = seller;
                trade.buyer = buyer;
                trade.price = (seller.price + buyer.price) / 2;
                while (buyer.need > 0 && seller.give > 0) {
                    buyer.need--;
                    seller.give--;
                    trade.units++;
                }
                if (trade.units > 0) {
                    trades.add(trade);
                }
            }
        }
    }

    private void cut() {
        boolean again = true;
        while (again) {
            again = false;
            for (int stretch = 4; stretch >= 0; stretch--) {
                while (Math.abs(flow(stretch)) > limits[stretch]) {
                    cutOneUnit(stretch);
                    again = true;
                }
            }
        }
    }

    private void cutOneUnit(int stretch) {
        boolean up = flow(stretch) > 0;
        Trade latest = null;
        for (Trade trade : trades) {
            if (trade.units > 0 && (up ? trade.goesUpOver(stretch) : trade.goesDownOver(stretch))) {
                latest = trade;
            }
        }
        latest.units--;
        latest.buyer.need++;
        latest.seller.give++;
        latest.seller.bill--;
        pool--;
        went[1]++;
    }

    private void battery(House house) {
        while (house.give > 0 && house.stored < house.part) {
            house.give--;
            house.stored++;
            went[2]++;
        }
        int taken = 0;
        while (house.need > 0 && house.stored > 0) {
            house.need--;
            house.stored--;
            taken++;
        }
        went[3] += taken;
        int wear = 2 * taken;
        for (int level = house.stored; taken > 0 && level < house.part / 4; level++) {
            wear++;
        }
        house.bill += wear;
        pool += wear;
    }

    private void supplier(House house) {
        int pays = house.need * sells - house.give * buys;
        house.bill += pays;
        supplied += pays;
        went[4] += house.need;
        went[5] += house.give;
    }

    /** Unit by unit: a buyer takes a free unit, or one of another buyer who finds a new one. */
    int mostTradable() {
        List<House> units = new ArrayList<>();
        List<House> needs = new ArrayList<>();
        for (House house : houses) {
            for (int unit = 0; unit < Math.abs(house.meter); unit++) {
                (house.meter > 0 ? units : needs).add(house);
            }
        }
        House[] takenBy = new House[units.size()];
        int most = 0;
        for (House buyer : needs) {
            if (finds(buyer, units, takenBy, new boolean[units.size()])) {
                most++;
            }
        }
        return most;
    }

    private static boolean finds(House buyer, List<House> units, House[] takenBy, boolean[] seen) {
        for (int unit = 0; unit < units.size(); unit++) {
            if (seen[unit] || units.get(unit).price > buyer.price) {
                continue;
            }
            seen[unit] = true;
            if (takenBy[unit] == null || finds(takenBy[unit], units, takenBy, seen)) {
                takenBy[unit] = buyer;
                return true;
            }
        }
        return false;
    }
}
