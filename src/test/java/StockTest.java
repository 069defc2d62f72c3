/** Promises 8 to 12, 31 and 32: PRICES, the STOCK, OATHS and BARGAINS set by hand, SLOTS. */
public final class StockTest {
    private static final Check CHECK = new Check();
    private static final String LAW = "ground a 5 2; ground b 7 1; ground c 99 3;"
            + "oath o a gives b; oath n nothing gives nothing; bargain p a gives b or a+a; claim k 10 = a;";

    private static void prices() {
        GroundCourt court = Check.told(LAW);
        int[] prices = {5, 7, 99};
        int[] stocks = {2, 1, 3};
        for (int g = 0; g < 3; g++) {
            CHECK.same("price(" + g + ")", court.price(g), prices[g]);
            CHECK.same("stock(" + g + ")", court.stock(g), stocks[g]);
        }
        for (int g : new int[] {-1, 3, 4, Integer.MAX_VALUE, Integer.MIN_VALUE}) {
            CHECK.same("price(" + g + ")", court.price(g), -1);
            CHECK.same("stock(" + g + ")", court.stock(g), -1);
            CHECK.same("put(" + g + ", 1)", court.put(g, 1), false);
        }
        CHECK.same("STOCK", court.count(5), 2 + 4 + 48);
    }

    private static void putting() {
        GroundCourt court = Check.told(LAW);
        CHECK.same("put(0, 4)", court.put(0, 4), false);
        CHECK.same("put(0, -1)", court.put(0, -1), false);
        CHECK.same("put(0, least)", court.put(0, Integer.MIN_VALUE), false);
        CHECK.same("STOCK stays", court.count(5), 54);
        CHECK.same("put(0, 3)", court.put(0, 3), true);
        CHECK.same("put(1, 0)", court.put(1, 0), true);
        CHECK.same("put(2, 1)", court.put(2, 1), true);
        CHECK.same("STOCK", court.count(5), 3 + 16);
        CHECK.same("stock(0)", court.stock(0), 3);
        CHECK.same("stock(1)", court.stock(1), 0);
        CHECK.same("stock(2)", court.stock(2), 1);
        CHECK.same("put(1, 3)", court.put(1, 3), true);
        CHECK.same("put(1, 3) again", court.put(1, 3), true);
        CHECK.same("STOCK", court.count(5), 3 + 12 + 16);
    }

    private static void deals() {
        GroundCourt court = Check.told(LAW);
        CHECK.same("OATHS", court.count(6), 3);
        CHECK.same("BARGAINS", court.count(7), 1);
        CHECK.same("oath(2, false)", court.oath(2, false), false);
        CHECK.same("oath(-1, false)", court.oath(-1, false), false);
        CHECK.same("bargain(1, false)", court.bargain(1, false), false);
        CHECK.same("bargain(-1, true)", court.bargain(-1, true), false);
        CHECK.same("oath(0, false)", court.oath(0, false), true);
        CHECK.same("OATHS", court.count(6), 2);
        CHECK.same("oath(0, false) again", court.oath(0, false), true);
        CHECK.same("oath(1, false)", court.oath(1, false), true);
        CHECK.same("OATHS", court.count(6), 0);
        CHECK.same("oath(0, true)", court.oath(0, true), true);
        CHECK.same("OATHS", court.count(6), 1);
        CHECK.same("bargain(0, false)", court.bargain(0, false), true);
        CHECK.same("BARGAINS", court.count(7), 0);
        CHECK.same("bargain(0, true)", court.bargain(0, true), true);
        CHECK.same("BARGAINS", court.count(7), 1);
    }

    private static void slots() {
        GroundCourt court = Check.told(LAW);
        for (int slot : new int[] {-1, 3, Integer.MAX_VALUE, Integer.MIN_VALUE}) {
            CHECK.same("hold(" + slot + ")", court.hold(slot), false);
            CHECK.same("restore(" + slot + ")", court.restore(slot), false);
        }
        CHECK.same("restore(0) of nothing", court.restore(0), false);
        CHECK.same("hold(0)", court.hold(0), true);
        CHECK.same("SLOTS", court.count(9), 1);
        court.put(0, 0);
        court.oath(1, false);
        court.bargain(0, false);
        CHECK.same("hold(2)", court.hold(2), true);
        CHECK.same("hold(2) again", court.hold(2), true);
        CHECK.same("SLOTS", court.count(9), 2);
        CHECK.same("restore(1) of nothing", court.restore(1), false);
        CHECK.same("restore(0)", court.restore(0), true);
        state(court, 54, 3, 1);
        CHECK.same("restore(2)", court.restore(2), true);
        state(court, 52, 1, 0);
        court.put(0, 1);
        court.hold(0);
        court.put(0, 3);
        CHECK.same("restore(2) once more", court.restore(2), true);
        state(court, 52, 1, 0);
        CHECK.same("restore(0) of what came later", court.restore(0), true);
        state(court, 53, 1, 0);
        CHECK.same("SLOTS stay", court.count(9), 2);
    }

    private static void state(GroundCourt court, int stock, int oaths, int bargains) {
        CHECK.same("STOCK", court.count(5), stock);
        CHECK.same("OATHS", court.count(6), oaths);
        CHECK.same("BARGAINS", court.count(7), bargains);
    }

    public static void main(String[] args) {
        prices();
        putting();
        deals();
        slots();
        CHECK.finish("StockTest");
    }
}
