import java.util.function.IntSupplier;

/** Compares answers with what is due, prints each that differs, and ends the test. */
final class Check {
    private static int checked = 0;
    private static int wrong = 0;
    private static int sentences = 0;
    private static String sentence = "";

    private Check() {
    }

    /** Names the sentence of the document that the checks from here on are about. */
    static void sentence(String text) {
        sentences++;
        sentence = text;
    }

    private static void fault(String text) {
        wrong++;
        System.out.println(sentence.isEmpty() ? text : text + " [" + sentence + "]");
    }

    static void due(String call, long got, long want) {
        checked++;
        if (got != want) {
            fault(call + " answered " + got + ", due is " + want);
        }
    }

    static void due(String call, boolean got, boolean want) {
        due(call, got ? 1 : 0, want ? 1 : 0);
    }

    static void outOfBounds(String call, IntSupplier body) {
        thrown(call, IndexOutOfBoundsException.class, body);
    }

    static void badArgument(String call, IntSupplier body) {
        thrown(call, IllegalArgumentException.class, body);
    }

    static void badState(String call, IntSupplier body) {
        thrown(call, IllegalStateException.class, body);
    }

    // The very class is asked for: what the machine throws of an array is a subclass of the one due.
    static void thrown(String call, Class<?> want, IntSupplier body) {
        checked++;
        String got;
        try {
            got = "answered " + body.getAsInt();
        } catch (RuntimeException e) {
            if (e.getClass() == want) {
                return;
            }
            got = "threw " + e.getClass().getSimpleName();
        }
        fault(call + " " + got + ", due is " + want.getSimpleName());
    }

    /** Whatever the call answers or refuses: only a throw statement may throw in it, never the machine. */
    static void notByItself(String call, IntSupplier body) {
        checked++;
        try {
            body.getAsInt();
        } catch (RuntimeException e) {
            Class<?> got = e.getClass();
            if (got != IndexOutOfBoundsException.class && got != IllegalArgumentException.class
                    && got != IllegalStateException.class) {
                fault(call + " threw " + got.getSimpleName());
            }
        }
    }

    /** All that can be asked of an object, in one text, to see that a call changed nothing. */
    static String stateOf(Gridpeer grid) {
        StringBuilder text = new StringBuilder();
        for (int house = 0; house < 6; house++) {
            text.append(grid.isMember(house)).append(' ').append(grid.stored(house)).append(' ');
            text.append(grid.part(house)).append(' ').append(grid.bill(house)).append('\n');
        }
        for (int stretch = 0; stretch < 5; stretch++) {
            text.append(grid.flow(stretch)).append(' ');
        }
        for (int way = 0; way < 6; way++) {
            text.append(grid.went(way)).append(' ');
        }
        for (int trade = 0; trade < grid.trades(); trade++) {
            for (int what = 0; what < 4; what++) {
                text.append(grid.ofTrade(trade, what)).append(' ');
            }
        }
        text.append(grid.trades()).append(' ').append(grid.quarter()).append(' ').append(grid.mostTradable());
        text.append(' ').append(grid.pool()).append(' ').append(grid.supplied());
        return text.toString();
    }

    static void unchanged(String call, String before, Gridpeer grid) {
        due(call + " leaves all as it was", before.equals(stateOf(grid)), true);
    }

    static void trade(Gridpeer grid, int trade, int seller, int buyer, int units, int price) {
        due("ofTrade(" + trade + ", 0)", grid.ofTrade(trade, 0), seller);
        due("ofTrade(" + trade + ", 1)", grid.ofTrade(trade, 1), buyer);
        due("ofTrade(" + trade + ", 2)", grid.ofTrade(trade, 2), units);
        due("ofTrade(" + trade + ", 3)", grid.ofTrade(trade, 3), price);
    }

    static void end() {
        String about = sentences == 0 ? "" : " of " + sentences + " sentences";
        System.out.println(checked + " checks" + about + ", " + wrong + " wrong");
        if (wrong != 0 || checked == 0) {
            System.exit(1);
        }
    }
}
