/** The edges that the Terms name: hulls, states, draught, mirrors, tides, hours, slips, orders, undo, exceptions. */
public final class TermsEdgesTest {
    private static final Edges edges = new Edges("TermsEdgesTest", Document.TERMS, Document.TERMS);

    public static void main(String[] args) {
        hulls();
        framesAndSeams();
        cargoAndWater();
        states();
        buoyancy();
        draught();
        mirrors();
        tides();
        hours();
        wearAndSinking();
        slips();
        orders();
        furtherRules();
        programs();
        undo();
        exceptions();
        firstException();
        constants();
        edges.end();
    }

    private static void at(String sentence, Runnable test) {
        edges.at(Document.TERMS, sentence, test);
    }

    private static void hulls() {
        at("At most 6 hulls exist, numbered from 0 in the order in which they were begun; they are never removed.", () -> {
            PuddleBoatyard yard = new PuddleBoatyard();
            for (int hull = 0; hull < 6; hull++) {
                edges.is("begun", hull, yard.beginHull());
            }
            edges.refuses(Edges.STATE, () -> Yards.withHulls(0, 0, 0, 0, 0, 0), PuddleBoatyard::beginHull);
            PuddleBoatyard states = Yards.withAllStates();
            edges.is("a delivered and a sunk one stay", 4, states.hullCount());
            edges.is("behind them", 4, states.beginHull());
            edges.is("the sixth", 5, states.beginHull());
            edges.is("a seventh", "throws IllegalStateException", Check.outcome(states::beginHull));
        });
    }

    private static void framesAndSeams() {
        at("A hull has up to 8 frames, numbered from 0 from bow to stern.", () -> {
            PuddleBoatyard yard = Yards.withHulls(0);
            for (int frame = 0; frame < 8; frame++) {
                edges.is("added", frame + 1, yard.addFrame(0, frame + 1, 30 - frame));
            }
            for (int frame = 0; frame < 8; frame++) {
                edges.is("left", frame + 1, yard.widthOf(0, frame, true));
                edges.is("right", 30 - frame, yard.widthOf(0, frame, false));
            }
            edges.refuses(Edges.STATE, () -> Yards.withHulls(8), refused -> refused.addFrame(0, 1, 1));
            edges.allows(() -> Yards.withHulls(7), allowed -> allowed.addFrame(0, 1, 1));
        });
        at("A frame has a left and a right width, each from 1 to 30.", () -> {
            PuddleBoatyard yard = Yards.withHulls(0);
            yard.addFrame(0, 1, 30);
            yard.addFrame(0, 30, 1);
            edges.is("widths", "0b 1|30~9 30|1", Yards.line(yard, 0));
        });
        at("Between each two neighbouring frames there is a seam, which has the number of the first one of them and a "
                + "caulking from 0 to 9, at first 9.", () -> {
            for (int frames = 0; frames <= 8; frames++) {
                PuddleBoatyard yard = Yards.withHulls(frames);
                for (int seam = 0; seam < 8; seam++) {
                    int number = seam;
                    edges.is(frames + " frames, seam " + seam,
                            seam + 1 < frames ? 9 : "throws IndexOutOfBoundsException",
                            Check.outcome(() -> yard.caulkingOf(0, number)));
                }
            }
            PuddleBoatyard worn = wornOut();
            edges.is("worn out", 0, worn.caulkingOf(0, 0));
            worn.pass(6);
            edges.is("not below 0", 0, worn.caulkingOf(0, 0));
            worn.caulk(0, 0);
            worn.caulk(0, 0);
            edges.is("not above 9", 9, worn.caulkingOf(0, 0));
        });
    }

    /** Hull 0 is afloat with two seams that were worn to 0 in 54 hours. */
    private static PuddleBoatyard wornOut() {
        PuddleBoatyard yard = Yards.withHulls(3);
        yard.setTide(0, 50);
        yard.launch(0);
        yard.pass(54);
        yard.pump(0, 999);
        return yard;
    }

    private static void cargoAndWater() {
        at("A hull has a cargo from 0 to 999, at first 0, and water inside, at first 0.", () -> {
            PuddleBoatyard yard = Yards.withHulls(1);
            edges.is("first cargo", 0, yard.setCargo(0, 999));
            edges.is("most cargo", 999, yard.setCargo(0, 0));
            edges.is("no cargo", 0, yard.setCargo(0, 0));
            edges.is("first water", 0, yard.waterIn(0));
        });
        at("Its weight is the sum of all widths of its frames, its cargo and its water.", () -> {
            edges.is("of nothing", 0, Yards.withHulls(0).weightOf(0));
            PuddleBoatyard widest = wide(8);
            widest.setCargo(0, 999);
            edges.is("of the widest frames and the most cargo", 480 + 999, widest.weightOf(0));
            widest.setTide(0, 50);
            widest.launch(0);
            widest.pass(54);
            // At each seam 0, 1, 2 .. 8 units an hour, for six hours each.
            edges.is("and water", 480 + 999 + 7 * 6 * 36, widest.weightOf(0));
        });
    }

    /** A yard with one hull of the widest frames. */
    private static PuddleBoatyard wide(int frames) {
        PuddleBoatyard yard = Yards.withHulls(0);
        for (int frame = 0; frame < frames; frame++) {
            yard.addFrame(0, 30, 30);
        }
        return yard;
    }

    private static void states() {
        at("A hull is BUILT at first, AFLOAT when it was launched, DELIVERED when it was delivered, and SUNK when it sank.",
                () -> {
            PuddleBoatyard yard = Yards.withHulls(2, 2);
            yard.setTide(0, 50);
            edges.is("built", 0, yard.stateOf(0));
            yard.launch(0);
            yard.launch(1);
            edges.is("afloat", 1, yard.stateOf(0));
            yard.addOrder(2, 0, 1);
            yard.deliver(0, 0);
            edges.is("delivered", 2, yard.stateOf(0));
            yard.setCargo(1, 999);
            edges.is("still afloat", 1, yard.stateOf(1));
            yard.pass(1);
            edges.is("sunk", 3, yard.stateOf(1));
            edges.is("delivered for good", 2, yard.stateOf(0));
        });
    }

    private static void buoyancy() {
        at("The buoyancy of a hull at a draught is the sum, over its seams, of all four widths of the two frames at the "
                + "seam, multiplied by the draught, divided by 2; the division is done once, with the whole sum.", () -> {
            // Two seams of 5 widths each: 10 in all, so 5 at the draught 1, where two halves would make 4.
            PuddleBoatyard yard = Yards.withHulls(0);
            yard.addFrame(0, 1, 2);
            yard.addFrame(0, 1, 1);
            yard.addFrame(0, 1, 2);
            carries(yard, 10, 8);
            // One seam of 5 widths: 2 at the draught 1, and 7 at the draught 3.
            PuddleBoatyard odd = Yards.withHulls(0);
            odd.addFrame(0, 1, 2);
            odd.addFrame(0, 1, 1);
            carries(odd, 5, 5);
            // Four widths count each for itself: 18 at the first seam, 34 at the second one, 26 a draught.
            PuddleBoatyard uneven = Yards.withHulls(0);
            uneven.addFrame(0, 10, 1);
            uneven.addFrame(0, 2, 5);
            uneven.addFrame(0, 20, 7);
            carries(uneven, 52, 45);
            // No seam carries nothing at all.
            edges.is("one frame", "throws NoSuchElementException", Check.outcome(() -> wide(1).draughtOf(0)));
            edges.is("no frame", 0, Yards.withHulls(0).draughtOf(0));
        });
    }

    /** At each draught hull 0 carries half of the widths times the draught, and not one unit more. */
    private static void carries(PuddleBoatyard yard, int widths, int weight) {
        for (int draught = 1; draught <= 40; draught++) {
            int cargo = widths * draught / 2 - weight;
            if (cargo >= 0) {
                yard.setCargo(0, cargo);
                edges.is("carried at " + draught, draught, yard.draughtOf(0));
                edges.is("by halving at " + draught, draught, yard.draughtByHalving(0));
                yard.setCargo(0, cargo + 1);
                Object next = draught == 40 ? "throws NoSuchElementException" : draught + 1;
                edges.is("a unit more at " + draught, next, Check.outcome(() -> yard.draughtOf(0)));
                edges.is("by halving a unit more at " + draught, next, Check.outcome(() -> yard.draughtByHalving(0)));
            }
        }
    }

    private static void draught() {
        at("The draught of a hull is the least whole number from 0 to 40 at which its buoyancy is not less than its "
                + "weight.", () -> {
            edges.is("the least of all", 0, Yards.withHulls(0).draughtOf(0));
            edges.is("0 by halving", 0, Yards.withHulls(0).draughtByHalving(0));
            PuddleBoatyard yard = Yards.withHulls(2);
            yard.setCargo(0, 20 * 20 - 20);
            edges.is("the deepest of all", 40, yard.draughtOf(0));
            edges.is("40 by halving", 40, yard.draughtByHalving(0));
        });
        at("A hull that has no such draught cannot float.", () -> {
            PuddleBoatyard yard = Yards.withHulls(2);
            yard.setCargo(0, 20 * 20 - 20 + 1);
            edges.is("too heavy", "throws NoSuchElementException", Check.outcome(() -> yard.draughtOf(0)));
            edges.is("by halving", "throws NoSuchElementException", Check.outcome(() -> yard.draughtByHalving(0)));
            yard.setTide(0, 50);
            edges.is("no launch", "throws UnsupportedOperationException", Check.outcome(() -> yard.launch(0)));
            edges.is("too heavy", PuddleBoatyard.TOO_HEAVY, yard.refusalReason());
        });
    }

    private static void mirrors() {
        at("To mirror a hull means to exchange the left and the right width of each of its frames.", () -> {
            PuddleBoatyard yard = Yards.withHulls(0);
            StringBuilder mirrored = new StringBuilder("0b");
            for (int frame = 0; frame < 8; frame++) {
                yard.addFrame(0, 1 + frame, 30 - frame);
                mirrored.append(' ').append(30 - frame).append('|').append(1 + frame).append(frame < 7 ? "~9" : "");
            }
            edges.is("all eight", 8, yard.mirror(0));
            edges.is("exchanged", mirrored.toString(), Yards.line(yard, 0));
        });
        at("Two frames are alike if both their left and their right widths are equal.", () -> {
            edges.is("both", 1, stretch(1, 2, 2, 1));
            edges.is("left alone", 0, stretch(1, 2, 3, 1));
            edges.is("right alone", 0, stretch(1, 2, 2, 3));
            edges.is("the same sum", 0, stretch(2, 3, 4, 1));
        });
        at("A hull is symmetric if each of its frames is like the same frame of its reflection.", () -> {
            for (int crooked = 0; crooked < 8; crooked++) {
                PuddleBoatyard yard = Yards.withHulls(0);
                for (int frame = 0; frame < 8; frame++) {
                    yard.addFrame(0, 9, frame == crooked ? 8 : 9);
                }
                edges.is("but for frame " + crooked, false, yard.isSymmetric(0));
            }
            edges.is("all eight", true, Yards.withHulls(8).isSymmetric(0));
        });
    }

    private static int stretch(int left, int right, int otherLeft, int otherRight) {
        PuddleBoatyard yard = Yards.withHulls(0, 0);
        yard.addFrame(0, left, right);
        yard.addFrame(1, otherLeft, otherRight);
        edges.is("by trying", yard.commonStretch(0, 1), yard.commonStretchByTrying(0, 1));
        return yard.commonStretch(0, 1);
    }

    private static void tides() {
        at("There are 12 tides, numbered from 0, each from 0 to 50; tide k is 4 times k for k up to 6, and 4 times 12 - k "
                + "for the others at first.", () -> {
            int[] first = {0, 4, 8, 12, 16, 20, 24, 20, 16, 12, 8, 4};
            PuddleBoatyard yard = new PuddleBoatyard();
            for (int tide = 0; tide < 12; tide++) {
                edges.is("tide " + tide, first[tide], yard.setTide(tide, 50));
                edges.is("highest", 50, yard.setTide(tide, 0));
                edges.is("lowest", 0, yard.setTide(tide, tide));
            }
            edges.refuses(Edges.ARGUMENT, Yards::rich, refused -> refused.setTide(12, 50));
        });
        at("The tide at an hour is the tide with the number of the hour modulo 12.", () -> {
            PuddleBoatyard yard = new PuddleBoatyard();
            for (int tide = 0; tide < 12; tide++) {
                yard.setTide(tide, 10 + tide);
            }
            for (int hour = 0; hour <= 36; hour++) {
                edges.is("now, at hour " + hour, 10 + hour % 12, yard.tideAfter(0));
                edges.is("the hour before next noon", 10 + 11, yard.tideAfter(11 - hour % 12));
                edges.is("next noon", 10, yard.tideAfter(12 - hour % 12));
                edges.is("one round later", 10 + hour % 12, yard.tideAfter(12));
                yard.pass(1);
            }
        });
    }

    private static void hours() {
        at("Hours are counted from 0.", () -> edges.is("first", 0, new PuddleBoatyard().hour()));
        at("First, the hour increases by 1.", () -> {
            PuddleBoatyard yard = Yards.withHulls(2);
            yard.setTide(0, 50);
            yard.launch(0);
            yard.pass(5);
            edges.is("before the sixth", 9, yard.caulkingOf(0, 0));
            yard.pass(1);
            edges.is("the sixth", 6, yard.hour());
            edges.is("wears as the new hour tells", 8, yard.caulkingOf(0, 0));
        });
        at("Second, each hull that is afloat takes in 9 minus the caulking of water at each of its seams.", () -> {
            for (int caulking = 9; caulking >= 0; caulking--) {
                PuddleBoatyard yard = Yards.withHulls(8);
                yard.setTide(0, 50);
                yard.launch(0);
                for (int worn = 9; worn > caulking; worn--) {
                    yard.pass(6);
                    yard.pump(0, 999);
                }
                yard.caulk(0, 0);
                yard.pass(1);
                edges.is("six seams of " + caulking + " and a tight one", 6 * (9 - caulking), yard.waterIn(0));
            }
            PuddleBoatyard states = Yards.withAllStates();
            states.beginHull();
            states.pass(12);
            // Hull 1 wears at the hours 6 and 12 of the hours 2 to 13.
            int[] water = {0, 6 + 2, 0, 0, 0};
            for (int hull = 0; hull < 5; hull++) {
                edges.is("in hull " + hull, water[hull], states.waterIn(hull));
            }
        });
    }

    private static void wearAndSinking() {
        at("Third, if the hour is divisible by 6, each seam of hulls that are afloat loses 1 of its caulking, if it is not "
                + "0.", () -> {
            PuddleBoatyard yard = Yards.withHulls(8, 8);
            yard.setTide(0, 50);
            yard.launch(0);
            for (int hour = 1; hour <= 60; hour++) {
                yard.pass(1);
                for (int seam = 0; seam < 7; seam++) {
                    edges.is("hour " + hour + ", seam " + seam, Math.max(0, 9 - hour / 6), yard.caulkingOf(0, seam));
                }
                yard.pump(0, 999);
            }
            edges.is("a hull that is built", 9, yard.caulkingOf(1, 6));
            PuddleBoatyard states = Yards.withAllStates();
            states.pass(6);
            edges.is("afloat", 8, states.caulkingOf(1, 0));
            edges.is("delivered", 9, states.caulkingOf(2, 0));
            edges.is("sunk", 9, states.caulkingOf(3, 0));
        });
        at("Fourth, the hulls that are afloat and cannot float any more sink.", () -> {
            PuddleBoatyard yard = wornOut();
            // Two seams carry 40 times 20, and let in 9 units each.
            yard.setCargo(0, 40 * 20 - 30 - 18);
            edges.is("just floats", 0, yard.pass(1));
            edges.is("afloat", PuddleBoatyard.AFLOAT, yard.stateOf(0));
            edges.is("sinks in the next hour", 1, yard.pass(1));
            yard.undo();
            yard.pump(0, 17);
            edges.is("one unit too heavy", 1, yard.pass(1));
            yard.undo();
            yard.pump(0, 1);
            edges.is("just floats again", 0, yard.pass(1));
            PuddleBoatyard heavy = Yards.withHulls(2);
            heavy.setTide(0, 50);
            heavy.launch(0);
            heavy.setCargo(0, 999);
            edges.is("launched too heavy by its cargo", 1, heavy.pass(1));
            PuddleBoatyard wearing = Yards.withHulls(2);
            wearing.setTide(0, 50);
            wearing.launch(0);
            wearing.pass(5);
            wearing.setCargo(0, 999);
            wearing.pass(1);
            edges.is("sinks behind the wear of its hour", "0s 5|5~8 5|5", Yards.line(wearing, 0));
        });
    }

    private static void slips() {
        at("There are 4 slips, each with a length from 0 to 8, at first 2, 4, 6 and 8.", () -> {
            PuddleBoatyard yard = new PuddleBoatyard();
            for (int slip = 0; slip < 4; slip++) {
                edges.is("first", 2 * slip + 2, yard.slipLength(slip));
                edges.is("previous", 2 * slip + 2, yard.setSlip(slip, 0));
                edges.is("shortest", 0, yard.setSlip(slip, 8));
                edges.is("longest", 8, yard.setSlip(slip, 8));
            }
            edges.is("a fifth", "throws IllegalArgumentException", Check.outcome(() -> yard.slipLength(4)));
        });
        at("A hull that is built and has at least 2 frames fits on a slip if the slip is at least as long as its number of "
                + "frames.", () -> {
            for (int frames = 0; frames <= 8; frames++) {
                for (int length = 0; length <= 8; length++) {
                    PuddleBoatyard yard = Yards.withHulls(frames);
                    onlySlip(yard, length);
                    int most = frames >= 2 && length >= frames ? 1 : 0;
                    String what = frames + " frames on " + length;
                    edges.is(what, most, yard.mostOnSlips());
                    edges.is(what + " by lengths", most, yard.mostOnSlipsByLengths());
                    edges.is(what + ", uses", 1, yard.bestUses());
                }
            }
            for (int hull = 0; hull < 4; hull++) {
                PuddleBoatyard states = Yards.withAllStates();
                edges.is("only the one that is built", 1, states.mostOnSlips());
                states.launch(0);
                edges.is("none is built", 0, states.mostOnSlips());
                edges.is("none is built, by lengths", 0, states.mostOnSlipsByLengths());
            }
        });
        at("A use of the slips gives some of these hulls one slip each, on which they fit, and no slip to two hulls.", () -> {
            edges.is("more hulls than slips", 4, Yards.withHulls(2, 2, 2, 2, 2, 2).mostOnSlips());
            edges.is("by lengths", 4, Yards.withHulls(2, 2, 2, 2, 2, 2).mostOnSlipsByLengths());
            edges.is("more slips than hulls", 2, Yards.withHulls(2, 2).mostOnSlips());
            edges.is("more slips by lengths", 2, Yards.withHulls(2, 2).mostOnSlipsByLengths());
            edges.is("one slip for two", 1, Yards.withHulls(8, 8).mostOnSlips());
            edges.is("one by lengths", 1, Yards.withHulls(8, 8).mostOnSlipsByLengths());
        });
        at("Two uses of the slips are different if a hull is on a slip in only one of them, or on different slips.", () -> {
            edges.is("another slip", 4, Yards.withHulls(2).bestUses());
            edges.is("another hull", 2, Yards.withHulls(8, 8).bestUses());
            edges.is("both", 4 * 3, Yards.withHulls(2, 2).bestUses());
            edges.is("as many as there can be", 6 * 5 * 4 * 3, Yards.withHulls(2, 2, 2, 2, 2, 2).bestUses());
        });
    }

    /** Slip 3 with this length; no hull fits on the others. */
    private static void onlySlip(PuddleBoatyard yard, int length) {
        for (int slip = 0; slip < 3; slip++) {
            yard.setSlip(slip, 0);
        }
        yard.setSlip(3, length);
    }

    private static void orders() {
        at("At most 6 orders exist.", () -> {
            PuddleBoatyard yard = sixOrders();
            edges.is("six", 6, yard.orderCount());
            edges.refuses(Edges.STATE, TermsEdgesTest::sixOrders, refused -> refused.addOrder(2, 0, 1));
            yard.deliver(3, 0);
            edges.is("room for one again", 6, yard.addOrder(2, 0, 1));
            edges.is("but not for two", "throws IllegalStateException", Check.outcome(() -> yard.addOrder(2, 0, 1)));
        });
        at("Orders have ids: the first one has the id 0, and every further one has the id of the order before it plus 1.",
                () -> {
            PuddleBoatyard yard = sixOrders();
            for (int order = 0; order < 6; order++) {
                edges.is("id", order, yard.orderAt(order));
                edges.is("delivered", 10, yard.deliver(order, order));
                edges.is("goes on", 6, yard.addOrder(2, 0, 10));
                yard.undo();
                yard.undo();
            }
            yard.deliver(5, 0);
            edges.is("the last id is not given again", 6, yard.addOrder(2, 0, 1));
            PuddleBoatyard one = Yards.sixAfloat();
            for (int order = 0; order < 6; order++) {
                edges.is("with none left", order, one.addOrder(2, 0, 1));
                one.deliver(order, order);
            }
        });
        at("An order asks for a number of frames from 2 to 8 by an hour, for a number of coins.", () -> {
            for (int frames = 2; frames <= 8; frames++) {
                PuddleBoatyard yard = wide(frames);
                yard.setTide(0, 50);
                yard.launch(0);
                yard.addOrder(frames, 0, 7);
                edges.is("frames " + frames, 7, yard.deliver(0, 0));
            }
        });
        late();
    }

    /** Six hulls of two frames afloat, and six orders for such, ids 0 to 5. */
    private static PuddleBoatyard sixOrders() {
        PuddleBoatyard yard = Yards.sixAfloat();
        for (int order = 0; order < 6; order++) {
            yard.addOrder(2, 0, 10);
        }
        return yard;
    }

    private static void late() {
        at("When a hull is delivered for an order, the order does not exist any more, and its coins are paid, less 1 coin "
                + "for each hour by which the present hour is after the hour of the order, but not less than 0 coins.", () -> {
            int[] paid = {3, 3, 3, 2, 1, 0, 0};
            for (int hour = 0; hour < paid.length; hour++) {
                PuddleBoatyard yard = Yards.sixAfloat();
                yard.addOrder(2, 2, 3);
                for (int passed = 0; passed < hour; passed++) {
                    yard.pass(1);
                }
                edges.is("due at hour " + hour, paid[hour], yard.coinsFor(0));
                edges.is("best at hour " + hour, paid[hour], yard.bestDelivery());
                edges.is("paid at hour " + hour, paid[hour], yard.deliver(0, 5));
                edges.is("account at hour " + hour, (long) paid[hour], yard.paidCoins());
                edges.is("delivered, even for nothing", PuddleBoatyard.DELIVERED, yard.stateOf(5));
                edges.is("no order", 0, yard.orderCount());
                edges.is("not any more", "throws NoSuchElementException", Check.outcome(() -> yard.coinsFor(0)));
            }
            PuddleBoatyard farthest = Yards.sixAfloat();
            farthest.addOrder(2, 999, 999);
            for (int hours = 0; hours < 11; hours++) {
                farthest.pass(90);
            }
            edges.is("hour", 990, farthest.hour());
            farthest.pass(9);
            edges.is("at hour 999", 999, farthest.coinsFor(0));
            farthest.pass(1);
            edges.is("at hour 1000", 998, farthest.coinsFor(0));
            for (int hours = 0; hours < 9; hours++) {
                farthest.pass(99);
            }
            farthest.pass(99);
            edges.is("at hour 1990", 8, farthest.coinsFor(0));
            farthest.pass(8);
            edges.is("at hour 1998", 0, farthest.coinsFor(0));
            farthest.pass(1);
            edges.is("at hour 1999", 0, farthest.coinsFor(0));
        });
    }

    private static void furtherRules() {
        at("Tides do not matter for hulls that are afloat.", () -> {
            PuddleBoatyard yard = Yards.sixAfloat();
            yard.setTide(0, 0);
            for (int tide = 0; tide < 12; tide++) {
                yard.setTide(tide, 0);
            }
            edges.is("none sinks", 0, yard.pass(12));
            edges.is("afloat", 6, yard.hullsIn(PuddleBoatyard.AFLOAT));
            yard.addOrder(2, 99, 4);
            edges.is("delivered", 4, yard.deliver(0, 0));
        });
        at("Hulls that are delivered or sunk keep their cargo, water and caulking.", () -> {
            PuddleBoatyard yard = Yards.sixAfloat();
            yard.pass(13);
            yard.setCargo(0, 3);
            yard.setCargo(1, 999);
            yard.addOrder(2, 0, 1);
            yard.deliver(0, 0);
            yard.pass(1);
            for (int hour = 0; hour < 20; hour++) {
                edges.is("delivered", "0d 5|5~7 5|5 23 8", line(yard, 0));
                edges.is("sunk", "1s 5|5~7 5|5 1019 10", line(yard, 1));
                yard.pass(1);
            }
        });
    }

    private static String line(PuddleBoatyard yard, int hull) {
        int cargo = yard.weightOf(hull) - yard.waterIn(hull);
        return Yards.line(yard, hull) + " " + cargo + " " + yard.waterIn(hull);
    }

    private static void programs() {
        at("Characters are collected in a buffer of at most 60 characters.", () -> {
            PuddleBoatyard yard = new PuddleBoatyard();
            for (int length = 1; length <= 60; length++) {
                edges.is("length", length, yard.type('h'));
            }
            edges.is("a sixty-first", "throws IllegalStateException", Check.outcome(() -> yard.type('h')));
        });
        at("number  = one to three digits", () -> {
            String[] good = {"1", "9", "01", "99", "001", "099"};
            for (String digits : good) {
                PuddleBoatyard yard = new PuddleBoatyard();
                edges.is(digits, 1, Yards.run(yard, "hours " + digits));
                edges.is("as many hours", Integer.parseInt(digits), yard.hour());
            }
            String[] wrong = {"", "0001", "1234", "+1", "-1", "1 "};
            int[] errors = {6, 9, 9, 6, 6, 7};
            for (int i = 0; i < wrong.length; i++) {
                PuddleBoatyard yard = new PuddleBoatyard();
                String text = "hours " + wrong[i];
                edges.is(text, "throws IllegalArgumentException", Check.outcome(() -> Yards.run(yard, text)));
                edges.is(text + " error", errors[i], yard.errorPosition());
            }
        });
    }

    private static void undo() {
        at("The last 8 of them can be undone.", () -> {
            for (int modifications = 0; modifications <= 20; modifications++) {
                PuddleBoatyard yard = new PuddleBoatyard();
                for (int height = 1; height <= modifications; height++) {
                    yard.setTide(0, height);
                }
                int most = Math.min(8, modifications);
                for (int undone = 1; undone <= most; undone++) {
                    edges.is(undone + " of " + modifications, most - undone, yard.undo());
                    edges.is("the height before", modifications - undone, yard.tideAfter(0));
                }
                edges.is("no more", "throws IllegalStateException", Check.outcome(yard::undo));
                edges.is("it stays", modifications - most, yard.tideAfter(0));
            }
        });
        at("The successful calls of beginHull, addFrame, mirror, setCargo, launch, caulk, pump, pass, setTide, setSlip, "
                + "addOrder, deliver and execute are modifications.", TermsEdgesTest::whatIsCounted);
        at("The buffer, the error position, the failed command, the refusal and the line are not affected by undo and "
                + "restore; everything else is, including the id that is given next.", TermsEdgesTest::whatIsNotAffected);
    }

    /** Each of the thirteen, also where it changes nothing, counts once, and no other call does. */
    private static void whatIsCounted() {
        Edges.Call[] counted = {PuddleBoatyard::beginHull, yard -> yard.addFrame(0, 1, 1), yard -> yard.mirror(0),
            yard -> yard.setCargo(1, 0), yard -> yard.launch(0), yard -> yard.caulk(0, 0), yard -> yard.pump(1, 1),
            yard -> yard.pass(1), yard -> yard.setTide(0, 50), yard -> yard.setSlip(0, 2), yard -> yard.addOrder(2, 0, 1),
            yard -> yard.deliver(1, 1), yard -> Yards.run(yard, "mirror 0;mirror 0")};
        for (int i = 0; i < counted.length; i++) {
            edges.is("counts " + i, 1, leftAfter(counted[i]));
        }
        Edges.Call[] notCounted = {PuddleBoatyard::save, yard -> yard.writeHull(0), yard -> yard.type('x'),
            PuddleBoatyard::hour, PuddleBoatyard::bestUses, yard -> yard.hoursToSinking(1),
            yard -> yard.commonStretch(0, 1), PuddleBoatyard::bestDelivery};
        for (int i = 0; i < notCounted.length; i++) {
            edges.is("does not count " + i, 0, leftAfter(notCounted[i]));
        }
    }

    /** One modification, the call, and undo: how many can still be undone. */
    private static Object leftAfter(Edges.Call call) {
        PuddleBoatyard yard = Yards.withAllStates();
        yard.addOrder(2, 0, 1);
        yard.save();
        yard.restore();
        yard.setTide(5, 5);
        call.on(yard);
        return Check.outcome(yard::undo);
    }

    private static void whatIsNotAffected() {
        PuddleBoatyard yard = Yards.rich();
        String remembered = Yards.remembered(yard);
        edges.is("of a rich yard", "1, 5, 1", remembered);
        for (int undone = 0; undone < 8; undone++) {
            yard.undo();
            edges.is("after undo", remembered, Yards.remembered(yard));
            edges.is("line after undo", 'a', yard.lineAt(1));
        }
        yard.restore();
        edges.is("after restore", remembered, Yards.remembered(yard));
        edges.is("line after restore", 'a', yard.lineAt(1));
        edges.is("buffer after both", 8, yard.type('7'));
        edges.is("as typed", 1, yard.execute());
        edges.is("id", 6, yard.addOrder(2, 0, 1));
        yard.undo();
        yard.deliver(1, 1);
        edges.is("the same id", 6, yard.addOrder(2, 0, 1));
        yard.restore();
        edges.is("the same id after restore", 6, yard.addOrder(2, 0, 1));
    }

    private static void exceptions() {
        at("A method that throws an exception changes nothing, except that execute empties the buffer, and that a refused "
                + "launch is stored as the refusal.", () -> {
            String before = Yards.everything(Yards.rich());
            PuddleBoatyard refused = Yards.rich();
            Check.outcome(() -> refused.launch(0));
            edges.same("a refused launch", before.replaceFirst("refusal:1", "refusal:3"), Yards.everything(refused));
            PuddleBoatyard malformed = Yards.rich();
            edges.is("malformed", "throws IllegalArgumentException", Check.outcome(malformed::execute));
            edges.is("error", 7, malformed.errorPosition());
            Yards.typeAll(malformed, "tide 3 ");
            edges.same("a malformed program", before.replaceFirst("error:5", "error:7"), Yards.everything(malformed));
        });
    }

    /** Each pair of exceptions that one call can deserve. */
    private static void firstException() {
        at("If several exceptions apply, the one that is documented first is thrown.", () -> {
            first(Edges.INDEX, yard -> yard.addFrame(6, 0, 1));
            first(Edges.INDEX, yard -> yard.addFrame(-1, 1, 31));
            first(Edges.ARGUMENT, yard -> yard.addFrame(1, 0, 1));
            first(Edges.ARGUMENT, yard -> yard.addFrame(4, 1, 31));
            first(Edges.INDEX, yard -> yard.setCargo(6, 1000));
            first(Edges.ARGUMENT, yard -> yard.setCargo(2, 1000));
            first(Edges.ARGUMENT, yard -> yard.setCargo(3, -1));
            for (int hull = 1; hull <= 3; hull++) {
                int afloatDeliveredSunk = hull;
                edges.refuses(Edges.STATE, () -> tooHeavy(0), yard -> yard.launch(afloatDeliveredSunk));
                edges.refuses(Edges.STATE, () -> tooHeavy(0), yard -> yard.hoursToLaunch(afloatDeliveredSunk));
                edges.refuses(Edges.STATE, () -> tooHeavy(0), yard -> yard.hoursToLaunchByTides(afloatDeliveredSunk));
                edges.refuses(Edges.STATE, () -> tooHeavy(50), yard -> yard.hoursToLaunch(afloatDeliveredSunk));
            }
            first(Edges.INDEX, yard -> yard.caulk(2, 1));
            first(Edges.INDEX, yard -> yard.caulk(3, -1));
            first(Edges.INDEX, yard -> yard.pump(6, 0));
            first(Edges.ARGUMENT, yard -> yard.pump(0, 0));
            first(Edges.ARGUMENT, yard -> yard.pump(3, 1000));
            edges.refuses(Edges.ARGUMENT, TermsEdgesTest::sixOrders, yard -> yard.addOrder(1, 0, 1));
            edges.refuses(Edges.ARGUMENT, TermsEdgesTest::sixOrders, yard -> yard.addOrder(2, 1000, 1));
            edges.refuses(Edges.ARGUMENT, TermsEdgesTest::sixOrders, yard -> yard.addOrder(2, 0, 0));
            first(Edges.NO_ELEMENT, yard -> yard.deliver(0, 6));
            first(Edges.NO_ELEMENT, yard -> yard.deliver(6, -1));
            first(Edges.NO_ELEMENT, yard -> yard.deliver(0, 3));
            first(Edges.INDEX, yard -> yard.deliver(1, 6));
            edges.refuses(Edges.ARGUMENT, () -> typed("x".repeat(60)), yard -> yard.type((char) 31));
            edges.refuses(Edges.ARGUMENT, () -> typed("x".repeat(60)), yard -> yard.type((char) 127));
            PuddleBoatyard malformed = typed("mirror 9;launch 0;x");
            edges.is("malformed, though its first command fails", "throws IllegalArgumentException",
                    Check.outcome(malformed::execute));
            edges.is("nothing but the error is remembered", "throws NoSuchElementException, 18, "
                    + "throws NoSuchElementException", Yards.remembered(malformed));
        });
    }

    private static void first(Class<? extends RuntimeException> want, Edges.Call call) {
        edges.refuses(want, Yards::rich, call);
    }

    /** Hull 1 is afloat, 2 delivered and 3 sunk, 1 and 3 are too heavy for a launch, and all tides are as given. */
    private static PuddleBoatyard tooHeavy(int tides) {
        PuddleBoatyard yard = Yards.withAllStates();
        yard.setCargo(1, 999);
        for (int tide = 0; tide < 12; tide++) {
            yard.setTide(tide, tides);
        }
        return yard;
    }

    private static PuddleBoatyard typed(String text) {
        PuddleBoatyard yard = new PuddleBoatyard();
        Yards.typeAll(yard, text);
        return yard;
    }

    private static void constants() {
        at("The constants: `BUILT = 0, AFLOAT = 1, DELIVERED = 2, SUNK = 3`: States of hulls.", () -> {
            PuddleBoatyard yard = Yards.withAllStates();
            for (int hull = 0; hull < 4; hull++) {
                edges.is("state", hull, yard.stateOf(hull));
            }
        });
        at("`TOO_SHORT = 1, TOO_HEAVY = 2, LOW_TIDE = 3`: Reasons for which a launch is refused: the hull has fewer than 2 "
                + "frames; it cannot float; its draught is greater than the tide.", () -> {
            reasonIs(1, 0, 0, 50);
            reasonIs(1, 1, 0, 50);
            reasonIs(0, 2, 0, 50);
            reasonIs(0, 2, 380, 50);
            reasonIs(2, 2, 381, 50);
            reasonIs(0, 2, 380, 40);
            reasonIs(3, 2, 380, 39);
            reasonIs(0, 8, 0, 2);
            reasonIs(3, 8, 0, 1);
            // Where more than one applies, the first one is told.
            reasonIs(1, 0, 999, 0);
            reasonIs(1, 1, 999, 0);
            reasonIs(2, 2, 999, 0);
        });
    }

    /** Why a hull of so many frames 5|5 with this cargo is refused at this tide; 0 if it is launched. */
    private static void reasonIs(int want, int frames, int cargo, int tide) {
        PuddleBoatyard yard = Yards.withHulls(frames);
        yard.setCargo(0, cargo);
        yard.setTide(0, tide);
        String what = frames + " frames, cargo " + cargo + ", tide " + tide;
        Object outcome = Check.outcome(() -> yard.launch(0));
        edges.is(what, want != 0, outcome.equals("throws UnsupportedOperationException"));
        edges.is(what + ", state", want == 0 ? PuddleBoatyard.AFLOAT : PuddleBoatyard.BUILT, yard.stateOf(0));
        edges.is(what + ", reason", want == 0 ? "throws NoSuchElementException" : want,
                Check.outcome(yard::refusalReason));
    }
}
