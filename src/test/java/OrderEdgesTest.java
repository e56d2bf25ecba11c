import java.util.List;
import java.util.function.Supplier;

/** The edges that promises 36 to 45 name: orders and accounts. */
public final class OrderEdgesTest {
    private static final Edges edges = new Edges("OrderEdgesTest", 36, 45);
    private static final List<Supplier<PuddleBoatyard>> BOATYARDS = List.of(PuddleBoatyard::new, Yards::rich);

    public static void main(String[] args) {
        addOrder();
        sixOrders();
        deliver();
        delivered();
        orderAt();
        coinsFor();
        bestDelivery();
        paidCoins();
        hullsIn();
        refusalReason();
        meanWeight();
        edges.end();
    }

    /** Six hulls of two frames afloat, and so many orders for such of 10 coins. */
    private static PuddleBoatyard withOrders(int count) {
        PuddleBoatyard yard = Yards.sixAfloat();
        for (int order = 0; order < count; order++) {
            yard.addOrder(2, 0, 10);
        }
        return yard;
    }

    private static void addOrder() {
        edges.at(36, "- `frames`: the number of frames, 2 to 8", () -> {
            for (int frames = 2; frames <= 8; frames++) {
                edges.is("allowed", 0, new PuddleBoatyard().addOrder(frames, 5, 5));
            }
        });
        edges.at(36, "- `hour`: the hour, 0 to 999", () -> {
            PuddleBoatyard yard = new PuddleBoatyard();
            yard.pass(3);
            yard.addOrder(2, 0, 10);
            yard.addOrder(2, 999, 10);
            edges.is("an hour that has passed", 7, yard.coinsFor(0));
            edges.is("the latest one", 10, yard.coinsFor(1));
        });
        edges.at(36, "- `coins`: the number of coins, 1 to 999", () -> {
            PuddleBoatyard yard = new PuddleBoatyard();
            yard.addOrder(2, 0, 1);
            yard.addOrder(2, 0, 999);
            edges.is("one", 1, yard.coinsFor(0));
            edges.is("most", 999, yard.coinsFor(1));
        });
        edges.at(36, "Throws `IllegalArgumentException` if one of the numbers is out of range", () -> {
            for (Supplier<PuddleBoatyard> maker : BOATYARDS) {
                edges.range(2, 8, Edges.ARGUMENT, maker, (yard, frames) -> yard.addOrder(frames, 5, 5));
                edges.range(0, 999, Edges.ARGUMENT, maker, (yard, hour) -> yard.addOrder(5, hour, 5));
                edges.range(1, 999, Edges.ARGUMENT, maker, (yard, coins) -> yard.addOrder(5, 5, coins));
            }
            edges.refuses(Edges.ARGUMENT, Yards::rich, yard -> yard.addOrder(9, -1, 0));
        });
    }

    private static void sixOrders() {
        edges.at(36, "Throws `IllegalStateException` if there are 6 orders", () -> {
            for (int count = 0; count < 6; count++) {
                int orders = count;
                edges.is("allowed", orders, withOrders(orders).addOrder(2, 0, 1));
            }
            edges.refuses(Edges.STATE, () -> withOrders(6), yard -> yard.addOrder(2, 0, 1));
            edges.refuses(Edges.STATE, () -> withOrders(6), yard -> yard.addOrder(8, 999, 999));
            PuddleBoatyard yard = withOrders(6);
            Check.outcome(() -> yard.addOrder(2, 0, 1));
            yard.deliver(5, 5);
            edges.is("the refused one got no id", 6, yard.addOrder(2, 0, 1));
        });
    }

    private static void deliver() {
        edges.at(37, "Throws `NoSuchElementException` if no order has this id", () -> {
            edges.refusesOutside(0, -1, Edges.NO_ELEMENT, Yards::sixAfloat, (yard, order) -> yard.deliver(order, 0));
            for (int count = 1; count <= 6; count++) {
                int orders = count;
                edges.range(0, orders - 1, Edges.NO_ELEMENT, () -> withOrders(orders),
                        (yard, order) -> yard.deliver(order, 0));
            }
            PuddleBoatyard yard = withOrders(3);
            yard.deliver(1, 0);
            edges.is("delivered already", "throws NoSuchElementException", Check.outcome(() -> yard.deliver(1, 1)));
            edges.is("the one before it", 10, yard.deliver(0, 1));
            edges.is("the one behind it", 10, yard.deliver(2, 2));
            edges.is("none is left", "throws NoSuchElementException", Check.outcome(() -> yard.deliver(2, 3)));
        });
        edges.at(37, Edges.NO_HULL, () -> {
            edges.range(0, 5, Edges.INDEX, () -> withOrders(1), (yard, hull) -> yard.deliver(0, hull));
            edges.refuses(Edges.INDEX, OrderEdgesTest::onlyAnOrder, yard -> yard.deliver(0, 0));
            edges.refuses(Edges.INDEX, Yards::rich, yard -> yard.deliver(1, 6));
        });
        edges.at(37, "Throws `IllegalStateException` if the hull is not afloat, or does not have exactly the number of frames "
                + "of the order", () -> {
            edges.states("a", Yards::rich, (yard, hull) -> yard.deliver(1, hull));
            for (int frames = 2; frames <= 8; frames++) {
                for (int asked = 2; asked <= 8; asked++) {
                    int hullFrames = frames;
                    int orderFrames = asked;
                    if (frames == asked) {
                        edges.allows(() -> oneOrder(hullFrames, orderFrames), yard -> yard.deliver(0, 0));
                    } else {
                        edges.refuses(Edges.STATE, () -> oneOrder(hullFrames, orderFrames), yard -> yard.deliver(0, 0));
                    }
                }
            }
        });
    }

    private static PuddleBoatyard onlyAnOrder() {
        PuddleBoatyard yard = new PuddleBoatyard();
        yard.addOrder(2, 0, 1);
        return yard;
    }

    /** One hull afloat with so many frames, and one order for so many. */
    private static PuddleBoatyard oneOrder(int frames, int asked) {
        PuddleBoatyard yard = Yards.withHulls(frames);
        yard.setTide(0, 50);
        yard.launch(0);
        yard.addOrder(asked, 0, 10);
        return yard;
    }

    private static void delivered() {
        edges.at(37, "Returns the coins that are paid.", () -> {
            PuddleBoatyard yard = oneOrder(2, 2);
            yard.addOrder(2, 12, 999);
            yard.pass(9);
            edges.is("the last coin", 1, yard.deliver(0, 0));
            yard.undo();
            yard.pass(1);
            edges.is("nothing", 0, yard.deliver(0, 0));
            yard.undo();
            yard.pass(2);
            edges.is("at the hour of the order", 999, yard.deliver(1, 0));
            yard.undo();
            yard.pass(1);
            edges.is("one hour later", 998, yard.deliver(1, 0));
        });
    }

    private static void orderAt() {
        edges.at(38, "Returns the number of orders.", () -> {
            for (int count = 0; count <= 6; count++) {
                edges.is("of " + count, count, withOrders(count).orderCount());
            }
            PuddleBoatyard yard = withOrders(1);
            yard.deliver(0, 0);
            edges.is("none again", 0, yard.orderCount());
        });
        edges.at(39, "- `position`: the position, from 0", () -> {
            for (int gone = 0; gone < 6; gone++) {
                PuddleBoatyard yard = withOrders(6);
                yard.deliver(gone, 0);
                yard.addOrder(2, 0, 1);
                for (int position = 0; position < 5; position++) {
                    edges.is("without " + gone, position < gone ? position : position + 1, yard.orderAt(position));
                }
                edges.is("the new one", 6, yard.orderAt(5));
            }
        });
        edges.at(39, "Returns an order by its position in the order of ids.", () -> {
            for (int gone = 0; gone < 5; gone++) {
                PuddleBoatyard yard = different();
                yard.deliver(gone, gone);
                for (int position = 0; position < 4; position++) {
                    int order = position < gone ? position : position + 1;
                    edges.is("id", order, yard.orderAt(position));
                    int coins = 10 * order + 50 - (15 - 3 * order);
                    edges.is("its coins and hour", coins, yard.coinsFor(order));
                    edges.is("its frames", coins, Check.outcome(() -> yard.deliver(order, order)));
                    yard.undo();
                }
            }
        });
        edges.at(39, "Throws `IndexOutOfBoundsException` if there is no such position", () -> {
            edges.refusesOutside(0, -1, Edges.INDEX, PuddleBoatyard::new, PuddleBoatyard::orderAt);
            for (int count = 1; count <= 6; count++) {
                int orders = count;
                edges.range(0, orders - 1, Edges.INDEX, () -> withOrders(orders), PuddleBoatyard::orderAt);
            }
            edges.refuses(Edges.INDEX, Yards::rich, yard -> yard.orderAt(5));
        });
    }

    /** Five hulls afloat of 2 to 6 frames, and for each an order that asks for it, at hours and coins of its own. */
    private static PuddleBoatyard different() {
        PuddleBoatyard yard = Yards.withHulls(2, 3, 4, 5, 6);
        yard.setTide(0, 50);
        for (int hull = 0; hull < 5; hull++) {
            yard.launch(hull);
            yard.addOrder(2 + hull, 3 * hull, 10 * hull + 50);
        }
        yard.pass(15);
        for (int order = 0; order < 5; order++) {
            int late = 15 - 3 * order;
            edges.is("due for " + order, 10 * order + 50 - late, yard.coinsFor(order));
        }
        return yard;
    }

    private static void coinsFor() {
        edges.at(40, "Throws `NoSuchElementException` if no order has this id", () -> {
            edges.refusesOutside(0, -1, Edges.NO_ELEMENT, PuddleBoatyard::new, PuddleBoatyard::coinsFor);
            for (int count = 1; count <= 6; count++) {
                int orders = count;
                edges.range(0, orders - 1, Edges.NO_ELEMENT, () -> withOrders(orders), PuddleBoatyard::coinsFor);
            }
            edges.refuses(Edges.NO_ELEMENT, Yards::rich, yard -> yard.coinsFor(0));
            edges.refuses(Edges.NO_ELEMENT, Yards::rich, yard -> yard.coinsFor(6));
        });
        edges.at(40, "Returns the coins that would be paid for an order now.", () -> {
            for (int hour = 0; hour <= 14; hour++) {
                PuddleBoatyard yard = new PuddleBoatyard();
                yard.addOrder(2, 4, 9);
                for (int passed = 0; passed < hour; passed++) {
                    yard.pass(1);
                }
                edges.is("at hour " + hour, hour <= 4 ? 9 : hour <= 13 ? 13 - hour : 0, yard.coinsFor(0));
            }
        });
    }

    private static void bestDelivery() {
        edges.at(41, "Returns the greatest sum of coins that could be paid now if hulls that are afloat were delivered for "
                + "orders, each hull for one order at most.", () -> {
            edges.is("nothing at all", 0, new PuddleBoatyard().bestDelivery());
            edges.is("no orders", 0, Yards.sixAfloat().bestDelivery());
            edges.is("no hulls", 0, onlyAnOrder().bestDelivery());
            for (int count = 1; count <= 6; count++) {
                edges.is("hulls for " + count, 10 * count, withOrders(count).bestDelivery());
            }
            PuddleBoatyard one = Yards.withHulls(2);
            one.setTide(0, 50);
            one.launch(0);
            for (int order = 0; order < 6; order++) {
                one.addOrder(2, 0, 994 + order);
            }
            edges.is("one hull, the last order", 999, one.bestDelivery());
            edges.is("asked again", 999, one.bestDelivery());
            PuddleBoatyard first = withOrders(1);
            edges.is("the first order", 10, first.bestDelivery());
            edges.is("the first order again", 10, first.bestDelivery());
            edges.is("frames that nobody has", 0, oneOrder(3, 2).bestDelivery());
            edges.is("frames that somebody has", 10, oneOrder(3, 3).bestDelivery());
            PuddleBoatyard late = oneOrder(2, 2);
            late.addOrder(2, 20, 4);
            edges.is("the dearer one now", 10, late.bestDelivery());
            late.pass(6);
            edges.is("as dear as the other one", 4, late.bestDelivery());
            late.pass(1);
            edges.is("the other one is dearer", 4, late.bestDelivery());
            late.pass(23);
            edges.is("both for nothing", 0, late.bestDelivery());
            PuddleBoatyard states = Yards.withAllStates();
            states.addOrder(2, 99, 1);
            states.addOrder(2, 99, 2);
            edges.is("one of four is afloat", 2, states.bestDelivery());
        });
    }

    private static void paidCoins() {
        edges.at(42, "Returns the coins that have been paid so far.", () -> {
            edges.is("none", 0L, new PuddleBoatyard().paidCoins());
            PuddleBoatyard yard = Yards.sixAfloat();
            for (int order = 0; order < 6; order++) {
                yard.addOrder(2, 0, 999);
                edges.is("before", 999L * order, yard.paidCoins());
                yard.deliver(order, order);
            }
            edges.is("all six", 999L * 6, yard.paidCoins());
        });
    }

    private static void hullsIn() {
        edges.at(43, "Throws `IllegalArgumentException` if there is no such state", () -> {
            edges.range(PuddleBoatyard.BUILT, PuddleBoatyard.SUNK, Edges.ARGUMENT, Yards::rich, PuddleBoatyard::hullsIn);
            edges.range(0, 3, Edges.ARGUMENT, PuddleBoatyard::new, PuddleBoatyard::hullsIn);
        });
        edges.at(43, "Returns the number of hulls in a state.", () -> {
            for (int state = 0; state < 4; state++) {
                edges.is("none of none", 0, new PuddleBoatyard().hullsIn(state));
                edges.is("one of each", 1, Yards.withAllStates().hullsIn(state));
                edges.is("all built", state == 0 ? 6 : 0, Yards.withHulls(new int[6]).hullsIn(state));
                edges.is("all afloat", state == 1 ? 6 : 0, Yards.sixAfloat().hullsIn(state));
            }
        });
    }

    private static void refusalReason() {
        edges.at(44, "Throws `NoSuchElementException` if no launch was refused so far", () -> {
            edges.refuses(Edges.NO_ELEMENT, PuddleBoatyard::new, PuddleBoatyard::refusalReason);
            edges.refuses(Edges.NO_ELEMENT, Yards::withAllStates, PuddleBoatyard::refusalReason);
            PuddleBoatyard yard = Yards.withAllStates();
            Check.outcome(() -> yard.launch(4));
            Check.outcome(() -> yard.launch(1));
            Check.outcome(() -> Yards.run(yard, "launch 9"));
            edges.is("other exceptions are no refusals", "throws NoSuchElementException",
                    Check.outcome(yard::refusalReason));
        });
        edges.at(44, "Returns the reason of the last refusal of a launch.", () -> {
            PuddleBoatyard yard = Yards.withHulls(1, 2, 2);
            Check.outcome(() -> yard.launch(0));
            edges.is("first", PuddleBoatyard.TOO_SHORT, yard.refusalReason());
            Check.outcome(() -> yard.launch(1));
            edges.is("second", PuddleBoatyard.LOW_TIDE, yard.refusalReason());
            Check.outcome(() -> yard.launch(9));
            edges.is("no such hull", PuddleBoatyard.LOW_TIDE, yard.refusalReason());
            yard.setTide(0, 50);
            yard.launch(1);
            edges.is("a launch that succeeds", PuddleBoatyard.LOW_TIDE, yard.refusalReason());
            Check.outcome(() -> yard.launch(0));
            edges.is("last", PuddleBoatyard.TOO_SHORT, yard.refusalReason());
        });
    }

    private static void meanWeight() {
        edges.at(45, "Throws `ArithmeticException` if there are no hulls", () -> {
            edges.refuses(ArithmeticException.class, PuddleBoatyard::new, PuddleBoatyard::meanWeight);
            PuddleBoatyard yard = Yards.withHulls(0);
            edges.is("one without frames", 0.0, yard.meanWeight());
            yard.undo();
            edges.is("undone", "throws ArithmeticException", Check.outcome(yard::meanWeight));
        });
        edges.at(45, "Returns the sum of the weights divided by the number of hulls, both converted to double.", () -> {
            for (int count = 1; count <= 6; count++) {
                PuddleBoatyard yard = Yards.withHulls(new int[count]);
                yard.setCargo(0, 1);
                edges.is("a part of " + count, 1.0 / count, yard.meanWeight());
                yard.setCargo(count - 1, 999);
                edges.is("many parts of " + count, (count == 1 ? 999.0 : 1000.0) / count, yard.meanWeight());
            }
        });
    }
}
