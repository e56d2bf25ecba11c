/** The edges that promises 1 to 19 name: hulls. */
public final class HullEdgesTest {
    private static final String NO_SEAM = Edges.NO_HULL + ", or it has no such seam";
    private static final Edges edges = new Edges("HullEdgesTest", 1, 19);

    public static void main(String[] args) {
        newObject();
        beginHull();
        addFrame();
        mirror();
        setCargo();
        launch();
        refusedLaunch();
        caulk();
        pump();
        readings();
        widthOf();
        caulkingOf();
        draughts();
        ranks();
        edges.end();
    }

    private static PuddleBoatyard sixBuilt() {
        return Yards.withHulls(2, 2, 2, 2, 2, 2);
    }

    private static void newObject() {
        edges.at(1, "Creates a boatyard without hulls and orders at hour 0.", () -> {
            PuddleBoatyard yard = new PuddleBoatyard();
            edges.is("hulls", 0, yard.hullCount());
            edges.is("orders", 0, yard.orderCount());
            edges.is("hour", 0, yard.hour());
            yard.beginHull();
            yard.addOrder(2, 0, 1);
            yard.pass(1);
            edges.is("another one has hulls of its own", 0, new PuddleBoatyard().hullCount());
            edges.is("another one has orders of its own", 0, new PuddleBoatyard().orderCount());
            edges.is("another one has hours of its own", 0, new PuddleBoatyard().hour());
        });
    }

    private static void beginHull() {
        edges.at(2, "Throws `IllegalStateException` if there are 6 hulls", () -> {
            edges.allows(() -> Yards.withHulls(2, 2, 2, 2, 2), PuddleBoatyard::beginHull);
            edges.refuses(Edges.STATE, HullEdgesTest::sixBuilt, PuddleBoatyard::beginHull);
            edges.refuses(Edges.STATE, Yards::sixAfloat, PuddleBoatyard::beginHull);
            edges.refuses(Edges.STATE, Yards::rich, PuddleBoatyard::beginHull);
            PuddleBoatyard yard = sixBuilt();
            yard.undo();
            yard.undo();
            yard.undo();
            edges.is("room again after undo", 5, yard.beginHull());
        });
    }

    private static void addFrame() {
        edges.hulls(3, Edges.NO_HULL, HullEdgesTest::sixBuilt, (yard, hull) -> yard.addFrame(hull, 1, 1));
        edges.at(3, "- `left`: the left width, 1 to 30", () -> {
            PuddleBoatyard yard = Yards.withHulls(0);
            for (int width : new int[] {1, 2, 29, 30}) {
                edges.is("allowed", yard.frameCount(0) + 1, yard.addFrame(0, width, 15));
                edges.is("added", width, yard.widthOf(0, yard.frameCount(0) - 1, true));
            }
        });
        edges.at(3, "- `right`: the right width, 1 to 30", () -> {
            PuddleBoatyard yard = Yards.withHulls(0);
            for (int width : new int[] {1, 2, 29, 30}) {
                edges.is("allowed", yard.frameCount(0) + 1, yard.addFrame(0, 15, width));
                edges.is("added", width, yard.widthOf(0, yard.frameCount(0) - 1, false));
            }
        });
        edges.at(3, "Throws `IllegalArgumentException` if a width is out of range", () -> {
            edges.range(1, 30, Edges.ARGUMENT, Yards::rich, (yard, width) -> yard.addFrame(0, width, 15));
            edges.range(1, 30, Edges.ARGUMENT, Yards::rich, (yard, width) -> yard.addFrame(0, 15, width));
            edges.range(1, 30, Edges.ARGUMENT, Yards::rich, (yard, width) -> yard.addFrame(0, width, width));
            edges.refuses(Edges.ARGUMENT, Yards::rich, yard -> yard.addFrame(0, 0, 31));
        });
        edges.at(3, "Throws `IllegalStateException` if the hull is not built, or has 8 frames", () -> {
            edges.states("b", Yards::withAllStates, (yard, hull) -> yard.addFrame(hull, 1, 1));
            edges.allows(() -> Yards.withHulls(7), yard -> yard.addFrame(0, 1, 1));
            edges.refuses(Edges.STATE, () -> Yards.withHulls(8), yard -> yard.addFrame(0, 1, 1));
            edges.refuses(Edges.STATE, Yards::rich, yard -> yard.addFrame(4, 30, 30));
        });
    }

    private static void mirror() {
        edges.hulls(4, Edges.NO_HULL, HullEdgesTest::sixBuilt, (yard, hull) -> yard.mirror(hull));
        edges.at(4, "Throws `IllegalStateException` if the hull is not built", () ->
                edges.states("b", Yards::withAllStates, (yard, hull) -> yard.mirror(hull)));
        edges.at(4, "Returns the number of its frames that are not like before.", () -> {
            for (int crooked = 0; crooked <= 8; crooked++) {
                PuddleBoatyard yard = Yards.withHulls(0);
                for (int frame = 0; frame < 8; frame++) {
                    yard.addFrame(0, 5, frame < crooked ? 6 : 5);
                }
                edges.is("of eight", crooked, yard.mirror(0));
                edges.is("and back", crooked, yard.mirror(0));
            }
            edges.is("of none", 0, Yards.withHulls(0).mirror(0));
        });
    }

    private static void setCargo() {
        edges.hulls(5, Edges.NO_HULL, HullEdgesTest::sixBuilt, (yard, hull) -> yard.setCargo(hull, 1));
        edges.at(5, "- `cargo`: the new cargo, 0 to 999", () -> {
            PuddleBoatyard yard = Yards.withHulls(2);
            int previous = 0;
            for (int cargo : new int[] {0, 1, 998, 999, 0}) {
                edges.is("previous", previous, yard.setCargo(0, cargo));
                edges.is("weight", 20 + cargo, yard.weightOf(0));
                previous = cargo;
            }
        });
        edges.at(5, "Throws `IllegalArgumentException` if the cargo is out of range", () -> {
            edges.range(0, 999, Edges.ARGUMENT, Yards::rich, (yard, cargo) -> yard.setCargo(0, cargo));
            edges.range(0, 999, Edges.ARGUMENT, Yards::rich, (yard, cargo) -> yard.setCargo(1, cargo));
        });
        edges.at(5, "Throws `IllegalStateException` if the hull is neither built nor afloat", () -> {
            edges.states("ba", Yards::withAllStates, (yard, hull) -> yard.setCargo(hull, 1));
            edges.states("ba", Yards::rich, (yard, hull) -> yard.setCargo(hull, 999));
        });
        edges.at(5, "Sets the cargo of a hull, which does not sink by this, even if it cannot float afterwards.", () -> {
            PuddleBoatyard yard = Yards.sixAfloat();
            yard.setCargo(0, 381);
            edges.is("does not sink", PuddleBoatyard.AFLOAT, yard.stateOf(0));
            edges.is("cannot float", "throws NoSuchElementException", Check.outcome(() -> yard.draughtOf(0)));
            yard.setCargo(0, 380);
            edges.is("floats again", 0, yard.pass(1));
            yard.setCargo(0, 381);
            edges.is("sinks in the next hour", 1, yard.pass(1));
        });
    }

    private static PuddleBoatyard allBuilt() {
        PuddleBoatyard yard = sixBuilt();
        yard.setTide(0, 50);
        return yard;
    }

    private static void launch() {
        edges.hulls(6, Edges.NO_HULL, HullEdgesTest::allBuilt, (yard, hull) -> yard.launch(hull));
        edges.at(6, "Throws `IllegalStateException` if the hull is not built", () ->
                edges.states("b", Yards::withAllStates, (yard, hull) -> yard.launch(hull)));
        edges.at(6, "Returns the draught of the hull.", () -> {
            for (int draught = 2; draught <= 40; draught++) {
                PuddleBoatyard yard = allBuilt();
                yard.setCargo(0, 10 * draught - 20);
                yard.setTide(0, draught);
                edges.is("as high as the tide", draught, yard.launch(0));
            }
        });
    }

    private static void refusedLaunch() {
        edges.at(6, "Throws `UnsupportedOperationException` if the launch is refused; the refusal is stored", () -> {
            String before = Yards.everything(Yards.rich());
            refuses(before, 5, 1);
            refuses(before, 0, 3);
            refuses(before, 4, 3);
            PuddleBoatyard heavy = Yards.rich();
            heavy.setCargo(0, 999);
            PuddleBoatyard like = Yards.rich();
            like.setCargo(0, 999);
            edges.is("too heavy", "throws UnsupportedOperationException", Check.outcome(() -> heavy.launch(0)));
            edges.same("stored", Yards.everything(like).replaceFirst("refusal:1", "refusal:2"), Yards.everything(heavy));
        });
        edges.at(6, "It is refused for the first reason that applies, in the order of the constants.", () -> {
            PuddleBoatyard yard = Yards.withHulls(1, 2);
            yard.setCargo(0, 999);
            yard.setCargo(1, 999);
            Check.outcome(() -> yard.launch(0));
            edges.is("all three apply", PuddleBoatyard.TOO_SHORT, yard.refusalReason());
            Check.outcome(() -> yard.launch(1));
            edges.is("two apply", PuddleBoatyard.TOO_HEAVY, yard.refusalReason());
            yard.setCargo(1, 0);
            Check.outcome(() -> yard.launch(1));
            edges.is("the last one", PuddleBoatyard.LOW_TIDE, yard.refusalReason());
        });
    }

    private static void refuses(String before, int hull, int reason) {
        PuddleBoatyard yard = Yards.rich();
        edges.is("refused", "throws UnsupportedOperationException", Check.outcome(() -> yard.launch(hull)));
        edges.same("stored", before.replaceFirst("refusal:1", "refusal:" + reason), Yards.everything(yard));
    }

    private static void caulk() {
        edges.hulls(7, NO_SEAM, HullEdgesTest::sixBuilt, (yard, hull) -> yard.caulk(hull, 0));
        seams(7, PuddleBoatyard::caulk);
        edges.at(7, "Throws `IllegalStateException` if the hull is neither built nor afloat", () -> {
            edges.states("ba", Yards::withAllStates, (yard, hull) -> yard.caulk(hull, 0));
            edges.states("ba", Yards::rich, (yard, hull) -> yard.caulk(hull, 0));
        });
        edges.at(7, "Caulks a seam of a hull, whose caulking is 9 afterwards.", () -> {
            for (int previous = 9; previous >= 0; previous--) {
                PuddleBoatyard yard = Yards.sixAfloat();
                for (int worn = 9; worn > previous; worn--) {
                    yard.pass(6);
                }
                edges.is("previous", previous, yard.caulk(5, 0));
                edges.is("afterwards", 9, yard.caulkingOf(5, 0));
                edges.is("the same hull again", 9, yard.caulk(5, 0));
                edges.is("another hull", previous, yard.caulkingOf(4, 0));
            }
        });
    }

    private interface SeamCall {
        int on(PuddleBoatyard yard, int hull, int seam);
    }

    /** The seams of a call: one less than there are frames. */
    private static void seams(int promise, SeamCall call) {
        edges.at(promise, NO_SEAM, () -> {
            for (int count = 2; count <= 8; count++) {
                int frames = count;
                edges.range(0, frames - 2, Edges.INDEX, () -> Yards.withHulls(8, frames),
                        (yard, seam) -> call.on(yard, 1, seam));
            }
            edges.refusesOutside(0, -1, Edges.INDEX, () -> Yards.withHulls(8, 0), (yard, seam) -> call.on(yard, 1, seam));
            edges.refusesOutside(0, -1, Edges.INDEX, () -> Yards.withHulls(8, 1), (yard, seam) -> call.on(yard, 1, seam));
        });
    }

    private static void pump() {
        edges.hulls(8, Edges.NO_HULL, Yards::sixAfloat, (yard, hull) -> yard.pump(hull, 1));
        edges.at(8, "- `units`: the number of units, 1 to 999", () -> {
            PuddleBoatyard yard = Yards.sixAfloat();
            yard.pass(36);
            int water = yard.waterIn(0);
            edges.is("one", water - 1, yard.pump(0, 1));
            edges.is("most", 0, yard.pump(0, 999));
        });
        edges.at(8, "Returns the water that is left, 0 if it had less water than this.", () -> {
            PuddleBoatyard yard = Yards.sixAfloat();
            yard.pass(12);
            edges.is("water", 6, yard.waterIn(0));
            edges.is("one less than there is", 1, yard.pump(0, 5));
            yard.undo();
            edges.is("as much as there is", 0, yard.pump(0, 6));
            yard.undo();
            edges.is("one more than there is", 0, yard.pump(0, 7));
            edges.is("none left", 0, yard.waterIn(0));
            edges.is("from none", 0, yard.pump(0, 1));
            edges.is("never below 0", 0, yard.waterIn(0));
        });
        edges.at(8, "Throws `IllegalArgumentException` if the number of units is out of range", () -> {
            edges.range(1, 999, Edges.ARGUMENT, Yards::rich, (yard, units) -> yard.pump(1, units));
            edges.range(1, 999, Edges.ARGUMENT, Yards::sixAfloat, (yard, units) -> yard.pump(5, units));
        });
        edges.at(8, "Throws `IllegalStateException` if the hull is not afloat", () -> {
            edges.states("a", Yards::withAllStates, (yard, hull) -> yard.pump(hull, 1));
            edges.states("a", Yards::rich, (yard, hull) -> yard.pump(hull, 999));
        });
    }

    private static void readings() {
        edges.at(9, "Returns the number of hulls.", () -> {
            for (int count = 0; count <= 6; count++) {
                edges.is("of " + count, count, Yards.withHulls(new int[count]).hullCount());
            }
            edges.is("in all states", 4, Yards.withAllStates().hullCount());
        });
        edges.hulls(10, Edges.NO_HULL, HullEdgesTest::sixBuilt, PuddleBoatyard::stateOf);
        edges.hulls(11, Edges.NO_HULL, HullEdgesTest::sixBuilt, PuddleBoatyard::frameCount);
        edges.at(11, "Returns the number of frames.", () -> {
            for (int frames = 0; frames <= 8; frames++) {
                edges.is("of " + frames, frames, Yards.withHulls(frames).frameCount(0));
            }
        });
        edges.hulls(14, Edges.NO_HULL, HullEdgesTest::sixBuilt, PuddleBoatyard::waterIn);
        edges.hulls(15, Edges.NO_HULL, HullEdgesTest::sixBuilt, PuddleBoatyard::weightOf);
        edges.hulls(18, Edges.NO_HULL, HullEdgesTest::sixBuilt, PuddleBoatyard::heelOf);
        edges.at(18, "Returns the sum of the left widths minus the sum of the right widths.", () -> {
            PuddleBoatyard yard = Yards.withHulls(0, 0);
            for (int frame = 0; frame < 8; frame++) {
                yard.addFrame(0, 30, 1);
                yard.addFrame(1, 1, 30);
            }
            edges.is("the greatest", 8 * 29, yard.heelOf(0));
            edges.is("the least", -8 * 29, yard.heelOf(1));
            edges.is("none", 0, Yards.withHulls(0).heelOf(0));
        });
    }

    private static void widthOf() {
        String noFrame = Edges.NO_HULL + ", or it has no such frame";
        edges.hulls(12, noFrame, HullEdgesTest::sixBuilt, (yard, hull) -> yard.widthOf(hull, 0, true));
        edges.hulls(12, noFrame, HullEdgesTest::sixBuilt, (yard, hull) -> yard.widthOf(hull, 1, false));
        edges.at(12, noFrame, () -> {
            for (int count = 1; count <= 8; count++) {
                int frames = count;
                edges.range(0, frames - 1, Edges.INDEX, () -> Yards.withHulls(8, frames),
                        (yard, frame) -> yard.widthOf(1, frame, true));
                edges.range(0, frames - 1, Edges.INDEX, () -> Yards.withHulls(8, frames),
                        (yard, frame) -> yard.widthOf(1, frame, false));
            }
            edges.refusesOutside(0, -1, Edges.INDEX, () -> Yards.withHulls(8, 0),
                    (yard, frame) -> yard.widthOf(1, frame, true));
        });
    }

    private static void caulkingOf() {
        edges.hulls(13, NO_SEAM, HullEdgesTest::sixBuilt, (yard, hull) -> yard.caulkingOf(hull, 0));
        seams(13, PuddleBoatyard::caulkingOf);
        edges.at(13, NO_SEAM, () -> {
            for (int hull = 0; hull < 4; hull++) {
                edges.is("in every state", 9, Yards.withAllStates().caulkingOf(hull, 0));
            }
        });
    }

    private static void draughts() {
        edges.hulls(16, Edges.NO_HULL, HullEdgesTest::sixBuilt, PuddleBoatyard::draughtOf);
        edges.hulls(17, Edges.NO_HULL, HullEdgesTest::sixBuilt, PuddleBoatyard::draughtByHalving);
        edges.at(16, "Returns the draught of a hull, by trying all draughts from 0 on.", () ->
                edges.is("an empty hull", 0, Yards.withHulls(0).draughtOf(0)));
        edges.at(17, "Returns the same draught as draughtOf, by halving the range of the draughts again and again.", () -> {
            edges.is("an empty hull", 0, Yards.withHulls(0).draughtByHalving(0));
            PuddleBoatyard yard = Yards.withHulls(2);
            for (int cargo = 0; cargo <= 400; cargo++) {
                yard.setCargo(0, cargo);
                edges.is("cargo " + cargo, Check.outcome(() -> yard.draughtOf(0)),
                        Check.outcome(() -> yard.draughtByHalving(0)));
            }
        });
        cannotFloat(16, PuddleBoatyard::draughtOf);
        cannotFloat(17, PuddleBoatyard::draughtByHalving);
    }

    private static void cannotFloat(int promise, Edges.NumberCall call) {
        edges.at(promise, "Throws `NoSuchElementException` if it cannot float", () -> {
            edges.refuses(Edges.NO_ELEMENT, () -> Yards.withHulls(1), yard -> call.on(yard, 0));
            for (int frames = 2; frames <= 8; frames++) {
                int count = frames;
                int most = Math.min(999, 40 * 10 * (frames - 1) - 10 * frames);
                edges.allows(() -> loaded(count, most), yard -> call.on(yard, 0));
                if (most < 999) {
                    edges.refuses(Edges.NO_ELEMENT, () -> loaded(count, most + 1), yard -> call.on(yard, 0));
                }
            }
            edges.refuses(Edges.NO_ELEMENT, () -> loaded(0, 1), yard -> call.on(yard, 0));
            edges.refuses(Edges.NO_ELEMENT, Yards::withAllStates, yard -> call.on(yard, 3));
            edges.allows(Yards::withAllStates, yard -> call.on(yard, 2));
        });
    }

    private static PuddleBoatyard loaded(int frames, int cargo) {
        PuddleBoatyard yard = Yards.withHulls(frames);
        yard.setCargo(0, cargo);
        return yard;
    }

    private static void ranks() {
        edges.at(19, "- `rank`: the rank, from 0", () -> {
            PuddleBoatyard yard = Yards.withHulls(6, 5, 4, 3, 2, 1);
            for (int rank = 0; rank < 6; rank++) {
                edges.is("the lighter ones came last", 5 - rank, yard.hullAtRank(rank));
                edges.is("all alike", rank, sixBuilt().hullAtRank(rank));
            }
        });
        edges.at(19, "Throws `NoSuchElementException` if there is no such rank", () -> {
            edges.refusesOutside(0, -1, Edges.NO_ELEMENT, PuddleBoatyard::new, PuddleBoatyard::hullAtRank);
            for (int count = 1; count <= 6; count++) {
                int hulls = count;
                edges.range(0, hulls - 1, Edges.NO_ELEMENT, () -> Yards.withHulls(new int[hulls]),
                        PuddleBoatyard::hullAtRank);
            }
        });
        edges.at(19, "Returns a hull in the order of weights, the lightest first, and the lowest number first of equal ones.",
                () -> {
            PuddleBoatyard yard = Yards.withAllStates();
            yard.beginHull();
            int[] order = {4, 0, 1, 2, 3};
            for (int rank = 0; rank < 5; rank++) {
                edges.is("in all states, rank " + rank, order[rank], yard.hullAtRank(rank));
            }
            yard.setCargo(0, 999);
            edges.is("equal to the sunk one, but lower", 0, yard.hullAtRank(3));
            edges.is("the sunk one", 3, yard.hullAtRank(4));
        });
    }
}
