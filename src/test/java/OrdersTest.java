import java.util.NoSuchElementException;

/** Promises 36 to 45: orders and accounts; refusalReason is tested with the launches. */
public final class OrdersTest {
    private static final Check check = new Check("OrdersTest");

    public static void main(String[] args) {
        addOrder();
        deliver();
        deliverFails();
        coins();
        bestDelivery();
        states();
        meanWeight();
        check.end();
    }

    private static PuddleBoatyard afloat(int... frames) {
        PuddleBoatyard yard = Yards.withHulls(frames);
        yard.setTide(0, 50);
        for (int hull = 0; hull < frames.length; hull++) {
            yard.launch(hull);
        }
        return yard;
    }

    /** Promises 36, 38 and 39. */
    private static void addOrder() {
        PuddleBoatyard yard = new PuddleBoatyard();
        check.fails("39 none", IndexOutOfBoundsException.class, () -> yard.orderAt(0));
        check.is("36 least", 0, yard.addOrder(2, 0, 1));
        check.is("36 greatest", 1, yard.addOrder(8, 999, 999));
        for (int order = 2; order < 6; order++) {
            check.is("38 before", order, yard.orderCount());
            check.is("36 id", order, yard.addOrder(2, 5, 7));
        }
        check.is("38 six", 6, yard.orderCount());
        for (int position = 0; position < 6; position++) {
            check.is("39 position", position, yard.orderAt(position));
        }
        check.fails("39 beyond", IndexOutOfBoundsException.class, () -> yard.orderAt(6));
        check.fails("39 negative", IndexOutOfBoundsException.class, () -> yard.orderAt(-1));
        check.fails("36 a seventh", IllegalStateException.class, () -> yard.addOrder(2, 0, 1));
        int[][] wrong = {{1, 0, 1}, {9, 0, 1}, {2, -1, 1}, {2, 1000, 1}, {2, 0, 0}, {2, 0, 1000}};
        for (int[] order : wrong) {
            check.fails("36 range before state", IllegalArgumentException.class,
                    () -> yard.addOrder(order[0], order[1], order[2]));
            check.fails("36 range", IllegalArgumentException.class,
                    () -> new PuddleBoatyard().addOrder(order[0], order[1], order[2]));
        }
    }

    /** Promises 37 to 39 and 42. */
    private static void deliver() {
        PuddleBoatyard yard = afloat(2, 3, 2);
        yard.addOrder(2, 0, 10);
        yard.addOrder(3, 4, 20);
        yard.addOrder(2, 0, 30);
        check.is("42 nothing", 0L, yard.paidCoins());
        check.is("37 on time", 20, yard.deliver(1, 1));
        check.is("10 delivered", PuddleBoatyard.DELIVERED, yard.stateOf(1));
        check.is("42 paid", 20L, yard.paidCoins());
        check.is("38 one less", 2, yard.orderCount());
        check.is("39 first", 0, yard.orderAt(0));
        check.is("39 second", 2, yard.orderAt(1));
        check.fails("37 no more", NoSuchElementException.class, () -> yard.deliver(1, 0));
        check.is("36 ids go on", 3, yard.addOrder(2, 0, 5));
        yard.pass(4);
        check.is("37 four hours late", 26, yard.deliver(2, 0));
        check.is("40 the other", 6, yard.coinsFor(0));
        check.is("37 late for 5 coins", 1, yard.deliver(3, 2));
        check.is("42 sum", 47L, yard.paidCoins());
        check.is("39 left", 0, yard.orderAt(0));
        check.is("36 ids still go on", 4, yard.addOrder(2, 0, 5));
        check.is("43 delivered", 3, yard.hullsIn(PuddleBoatyard.DELIVERED));
    }

    /** Promise 37. */
    private static void deliverFails() {
        PuddleBoatyard yard = Yards.withAllStates();
        yard.addOrder(3, 0, 10);
        check.fails("37 order first", NoSuchElementException.class, () -> yard.deliver(0, 9));
        check.fails("37 no such order", NoSuchElementException.class, () -> yard.deliver(2, 1));
        check.fails("37 negative order", NoSuchElementException.class, () -> yard.deliver(-1, 1));
        check.fails("37 hull", IndexOutOfBoundsException.class, () -> yard.deliver(1, 4));
        check.fails("37 negative hull", IndexOutOfBoundsException.class, () -> yard.deliver(1, -1));
        check.fails("37 too short", IllegalStateException.class, () -> yard.deliver(1, 1));
        yard.addOrder(2, 0, 10);
        check.fails("37 built", IllegalStateException.class, () -> yard.deliver(2, 0));
        check.fails("37 delivered", IllegalStateException.class, () -> yard.deliver(2, 2));
        check.fails("37 sunk", IllegalStateException.class, () -> yard.deliver(2, 3));
        check.is("37 nothing changed", 2, yard.orderCount());
        PuddleBoatyard longer = afloat(4);
        longer.addOrder(3, 0, 10);
        check.fails("37 too long", IllegalStateException.class, () -> longer.deliver(0, 0));
    }

    /** Promise 40. */
    private static void coins() {
        PuddleBoatyard yard = new PuddleBoatyard();
        yard.addOrder(2, 3, 5);
        check.fails("40 no such order", NoSuchElementException.class, () -> yard.coinsFor(1));
        check.fails("40 negative", NoSuchElementException.class, () -> yard.coinsFor(-1));
        int[] due = {5, 5, 5, 5, 4, 3, 2, 1, 0, 0, 0};
        for (int hour = 0; hour < due.length; hour++) {
            check.is("40 hour " + hour, due[hour], yard.coinsFor(0));
            yard.pass(1);
        }
    }

    /** Promise 41. */
    private static void bestDelivery() {
        PuddleBoatyard yard = afloat(2, 2, 3, 4);
        check.is("41 no orders", 0, yard.bestDelivery());
        yard.addOrder(2, 0, 10);
        yard.addOrder(2, 9, 9);
        yard.addOrder(2, 9, 30);
        check.is("41 the two dearest", 40, yard.bestDelivery());
        yard.addOrder(3, 0, 7);
        check.is("41 and the third hull", 47, yard.bestDelivery());
        yard.addOrder(5, 0, 999);
        check.is("41 no hull for it", 47, yard.bestDelivery());
        yard.addOrder(4, 0, 1);
        check.is("41 all hulls", 48, yard.bestDelivery());
        yard.pass(2);
        check.is("41 with what is due now", 30 + 9 + 5 + 0, yard.bestDelivery());
        yard.deliver(2, 0);
        check.is("41 what is left", 9 + 5 + 0, yard.bestDelivery());
        check.is("41 changes nothing", 14, yard.bestDelivery());
        PuddleBoatyard states = Yards.withAllStates();
        for (int order = 0; order < 4; order++) {
            states.addOrder(2, 99, 10);
        }
        check.is("41 only afloat", 10, states.bestDelivery());
        check.is("41 no hulls", 0, new PuddleBoatyard().bestDelivery());
    }

    /** Promise 43. */
    private static void states() {
        PuddleBoatyard yard = Yards.withAllStates();
        yard.beginHull();
        check.is("43 built", 2, yard.hullsIn(PuddleBoatyard.BUILT));
        check.is("43 afloat", 1, yard.hullsIn(PuddleBoatyard.AFLOAT));
        check.is("43 delivered", 1, yard.hullsIn(PuddleBoatyard.DELIVERED));
        check.is("43 sunk", 1, yard.hullsIn(PuddleBoatyard.SUNK));
        check.is("43 only hulls that exist", 0, new PuddleBoatyard().hullsIn(PuddleBoatyard.BUILT));
        check.fails("43 negative", IllegalArgumentException.class, () -> yard.hullsIn(-1));
        check.fails("43 beyond", IllegalArgumentException.class, () -> yard.hullsIn(4));
    }

    /** Promise 45. */
    private static void meanWeight() {
        PuddleBoatyard yard = new PuddleBoatyard();
        check.fails("45 none", ArithmeticException.class, yard::meanWeight);
        yard.beginHull();
        check.is("45 zero", 0.0, yard.meanWeight());
        yard.setCargo(0, 1);
        yard.beginHull();
        check.is("45 half", 0.5, yard.meanWeight());
        yard.beginHull();
        check.is("45 third", 1.0 / 3.0, yard.meanWeight());
        check.is("45 all states", (20.0 + 20 + 20 + 1019) / 4.0, Yards.withAllStates().meanWeight());
    }
}
