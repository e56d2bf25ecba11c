/** The edges that promises 24 to 35 name: tides, hours and slips. */
public final class TideEdgesTest {
    private static final Edges edges = new Edges("TideEdgesTest", 24, 35);

    public static void main(String[] args) {
        setTide();
        pass();
        hour();
        tideAfter();
        hoursToLaunch(28, PuddleBoatyard::hoursToLaunch);
        hoursToLaunch(29, PuddleBoatyard::hoursToLaunchByTides);
        hoursToSinking();
        setSlip();
        slipLength();
        slipPlans();
        edges.end();
    }

    private static void setTide() {
        edges.at(24, "- `tide`: the number of the tide, 0 to 11", () -> {
            PuddleBoatyard yard = new PuddleBoatyard();
            edges.is("first", 0, yard.setTide(0, 31));
            edges.is("last", 4, yard.setTide(11, 32));
            edges.is("first set", 31, yard.tideAfter(0));
            edges.is("last set", 32, yard.tideAfter(11));
        });
        edges.at(24, "- `height`: the new height, 0 to 50", () -> {
            PuddleBoatyard yard = new PuddleBoatyard();
            int previous = 24;
            for (int height : new int[] {0, 1, 49, 50, 0}) {
                edges.is("previous", previous, yard.setTide(6, height));
                edges.is("set", height, yard.tideAfter(6));
                previous = height;
            }
        });
        edges.at(24, "Throws `IllegalArgumentException` if the number or the height is out of range", () -> {
            edges.range(0, 11, Edges.ARGUMENT, Yards::rich, (yard, tide) -> yard.setTide(tide, 25));
            edges.range(0, 50, Edges.ARGUMENT, Yards::rich, (yard, height) -> yard.setTide(0, height));
            edges.range(0, 50, Edges.ARGUMENT, Yards::rich, (yard, height) -> yard.setTide(11, height));
            edges.refuses(Edges.ARGUMENT, Yards::rich, yard -> yard.setTide(12, 51));
        });
    }

    private static void pass() {
        edges.at(25, "- `hours`: the number of hours, 1 to 99", () -> {
            PuddleBoatyard yard = new PuddleBoatyard();
            yard.pass(1);
            edges.is("one", 1, yard.hour());
            yard.pass(99);
            edges.is("most", 100, yard.hour());
        });
        edges.at(25, "Throws `IllegalArgumentException` if the number of hours is out of range", () ->
                edges.range(1, 99, Edges.ARGUMENT, Yards::rich, PuddleBoatyard::pass));
        edges.at(25, "Lets hours pass, one after the other.", () -> {
            for (int hours = 1; hours <= 99; hours++) {
                PuddleBoatyard together = leaking();
                int sunk = together.pass(hours);
                PuddleBoatyard single = leaking();
                int sunkSingly = 0;
                for (int hour = 0; hour < hours; hour++) {
                    sunkSingly += single.pass(1);
                }
                edges.is("sunk in " + hours, sunkSingly, sunk);
                edges.same("as hour by hour", Yards.seen(single), Yards.seen(together));
            }
        });
        edges.at(25, "Returns the number of hulls that sink in these hours.", () -> {
            edges.is("no hulls", 0, new PuddleBoatyard().pass(99));
            edges.is("none afloat", 0, Yards.withHulls(2, 2, 2, 2, 2, 2).pass(99));
            for (int heavy = 0; heavy <= 6; heavy++) {
                PuddleBoatyard yard = Yards.sixAfloat();
                for (int hull = 0; hull < heavy; hull++) {
                    yard.setCargo(hull, 999);
                }
                edges.is("too heavy", heavy, yard.pass(1));
                edges.is("sunk already", 0, yard.pass(1));
            }
        });
    }

    /** Five hulls afloat that sink at different hours within 99. */
    private static PuddleBoatyard leaking() {
        PuddleBoatyard yard = Yards.sixAfloat();
        for (int hull = 0; hull < 5; hull++) {
            yard.setCargo(hull, 380 - 40 * hull);
        }
        return yard;
    }

    private static void hour() {
        edges.at(26, "Returns the number of hours that have passed.", () -> {
            edges.is("none", 0, new PuddleBoatyard().hour());
            PuddleBoatyard yard = new PuddleBoatyard();
            for (int calls = 1; calls <= 500; calls++) {
                yard.pass(99);
            }
            edges.is("very many", 49500, yard.hour());
            edges.is("their tide", 0, yard.tideAfter(0));
        });
    }

    private static void tideAfter() {
        edges.at(27, "- `hours`: the number of hours, 0 to 999", () -> {
            PuddleBoatyard yard = new PuddleBoatyard();
            for (int tide = 0; tide < 12; tide++) {
                yard.setTide(tide, 20 + tide);
            }
            edges.is("now", 20, yard.tideAfter(0));
            edges.is("last of the round", 31, yard.tideAfter(11));
            edges.is("first of the next one", 20, yard.tideAfter(12));
            edges.is("farthest", 20 + 999 % 12, yard.tideAfter(999));
            yard.pass(11);
            edges.is("now, at 11", 31, yard.tideAfter(0));
            edges.is("then 0 again", 20, yard.tideAfter(1));
            edges.is("farthest from 11", 20 + 1010 % 12, yard.tideAfter(999));
        });
        edges.at(27, "Throws `IllegalArgumentException` if the number of hours is out of range", () ->
                edges.range(0, 999, Edges.ARGUMENT, Yards::rich, PuddleBoatyard::tideAfter));
    }

    private static void hoursToLaunch(int promise, Edges.NumberCall call) {
        edges.hulls(promise, Edges.NO_HULL, () -> Yards.withHulls(2, 2, 2, 2, 2, 2), call);
        edges.at(promise, "Throws `IllegalStateException` if the hull is not built", () ->
                edges.states("b", Yards::withAllStates, call));
        edges.at(promise, "Returns the number of hours, 0 if it could be launched now.", () -> {
            for (int hour = 0; hour < 24; hour++) {
                for (int hours = 0; hours < 12; hours++) {
                    PuddleBoatyard yard = onlyTide((hour + hours) % 12, 2);
                    for (int passed = 0; passed < hour; passed++) {
                        yard.pass(1);
                    }
                    edges.is("at hour " + hour, hours, call.on(yard, 0));
                }
            }
            PuddleBoatyard all = onlyTide(0, 2);
            for (int tide = 0; tide < 12; tide++) {
                all.setTide(tide, 2);
            }
            edges.is("every tide is high enough", 0, call.on(all, 0));
        });
        edges.at(promise, "Throws `NoSuchElementException` if it could never be launched", () -> {
            for (int tide = 0; tide < 12; tide++) {
                int only = tide;
                edges.refuses(Edges.NO_ELEMENT, () -> onlyTide(only, 1), yard -> call.on(yard, 0));
                edges.allows(() -> onlyTide(only, 2), yard -> call.on(yard, 0));
            }
            edges.refuses(Edges.NO_ELEMENT, () -> highTides(0, 0), yard -> call.on(yard, 0));
            edges.refuses(Edges.NO_ELEMENT, () -> highTides(1, 0), yard -> call.on(yard, 0));
            edges.allows(() -> highTides(2, 380), yard -> call.on(yard, 0));
            edges.refuses(Edges.NO_ELEMENT, () -> highTides(2, 381), yard -> call.on(yard, 0));
        });
    }

    /** Hull 0 needs a tide of 2; all tides but one are 0. */
    private static PuddleBoatyard onlyTide(int tide, int height) {
        PuddleBoatyard yard = Yards.withHulls(2);
        for (int other = 0; other < 12; other++) {
            yard.setTide(other, other == tide ? height : 0);
        }
        return yard;
    }

    private static PuddleBoatyard highTides(int frames, int cargo) {
        PuddleBoatyard yard = Yards.withHulls(frames);
        yard.setCargo(0, cargo);
        for (int tide = 0; tide < 12; tide++) {
            yard.setTide(tide, 50);
        }
        return yard;
    }

    private static void hoursToSinking() {
        edges.hulls(30, Edges.NO_HULL, Yards::sixAfloat, PuddleBoatyard::hoursToSinking);
        edges.at(30, "Throws `IllegalStateException` if the hull is not afloat", () ->
                edges.states("a", Yards::withAllStates, PuddleBoatyard::hoursToSinking));
        edges.at(30, "Returns the number of hours, 1 to 500.", () -> {
            PuddleBoatyard yard = Yards.sixAfloat();
            yard.setCargo(0, 381);
            edges.is("the least", 1, yard.hoursToSinking(0));
            for (int cargo = 0; cargo <= 380; cargo += 20) {
                yard.setCargo(0, cargo);
                int hours = yard.hoursToSinking(0);
                int modifications = 0;
                for (int left = hours - 1; left > 0; left -= 99) {
                    edges.is("not before", 0, yard.pass(Math.min(99, left)));
                    modifications++;
                }
                edges.is("the next one", 1, yard.hoursToSinking(0));
                yard.pass(1);
                edges.is("sunk", PuddleBoatyard.SUNK, yard.stateOf(0));
                for (int undone = 0; undone <= modifications; undone++) {
                    yard.undo();
                }
            }
        });
        edges.at(30, "Returns after how many hours a hull that is afloat will sink, if only hours pass.", () -> {
            PuddleBoatyard yard = Yards.sixAfloat();
            int fromTheFirstHour = yard.hoursToSinking(0);
            for (int hour = 1; hour < fromTheFirstHour; hour++) {
                yard.pass(1);
                edges.is("from hour " + hour, fromTheFirstHour - hour, yard.hoursToSinking(0));
            }
        });
        edges.at(30, "Throws `NoSuchElementException` if it does not sink within 500 hours", () -> {
            // By what the Terms say of leaks no hull lasts that long: the widest, empty and tight, is the last to sink.
            PuddleBoatyard yard = Yards.withHulls(0);
            for (int frame = 0; frame < 8; frame++) {
                yard.addFrame(0, 30, 30);
            }
            yard.setTide(0, 50);
            yard.launch(0);
            edges.is("the latest", 290, yard.hoursToSinking(0));
        });
    }

    private static void setSlip() {
        edges.at(31, "- `slip`: the slip, 0 to 3", () -> {
            PuddleBoatyard yard = new PuddleBoatyard();
            edges.is("first", 2, yard.setSlip(0, 7));
            edges.is("last", 8, yard.setSlip(3, 1));
            edges.is("first set", 7, yard.slipLength(0));
            edges.is("last set", 1, yard.slipLength(3));
        });
        edges.at(31, "- `length`: the new length, 0 to 8", () -> {
            PuddleBoatyard yard = new PuddleBoatyard();
            int previous = 4;
            for (int length : new int[] {0, 1, 7, 8, 0}) {
                edges.is("previous", previous, yard.setSlip(1, length));
                edges.is("set", length, yard.slipLength(1));
                previous = length;
            }
        });
        edges.at(31, "Throws `IllegalArgumentException` if the slip or the length is out of range", () -> {
            edges.range(0, 3, Edges.ARGUMENT, Yards::rich, (yard, slip) -> yard.setSlip(slip, 6));
            edges.range(0, 8, Edges.ARGUMENT, Yards::rich, (yard, length) -> yard.setSlip(0, length));
            edges.range(0, 8, Edges.ARGUMENT, Yards::rich, (yard, length) -> yard.setSlip(3, length));
            edges.refuses(Edges.ARGUMENT, Yards::rich, yard -> yard.setSlip(4, 9));
        });
    }

    private static void slipLength() {
        edges.at(32, "- `slip`: the slip, 0 to 3", () -> {
            edges.is("first", 2, new PuddleBoatyard().slipLength(0));
            edges.is("last", 8, new PuddleBoatyard().slipLength(3));
        });
        edges.at(32, "Throws `IllegalArgumentException` if there is no such slip", () ->
                edges.range(0, 3, Edges.ARGUMENT, Yards::rich, PuddleBoatyard::slipLength));
    }

    private static void slipPlans() {
        edges.at(33, "Returns the greatest number of hulls that can be on slips at the same time, by moving hulls to other "
                + "slips to make room for further ones.", () -> {
            edges.is("no hulls", 0, new PuddleBoatyard().mostOnSlips());
            edges.is("each has to move for the last one", 4, chain().mostOnSlips());
            PuddleBoatyard circle = Yards.withHulls(2, 3, 7, 3);
            int[] lengths = {6, 8, 2, 2};
            for (int slip = 0; slip < 4; slip++) {
                circle.setSlip(slip, lengths[slip]);
            }
            edges.is("no room for the last one, whoever moves", 3, circle.mostOnSlips());
        });
        edges.at(34, "Returns the same number as mostOnSlips, from the shortest hull to the longest one, each on the shortest "
                + "slip on which it fits.", () -> {
            edges.is("no hulls", 0, new PuddleBoatyard().mostOnSlipsByLengths());
            edges.is("longest hull first", 4, chain().mostOnSlipsByLengths());
            edges.is("shortest hull last", 4, Yards.withHulls(8, 6, 4, 2).mostOnSlipsByLengths());
        });
        edges.at(35, "Returns the number of different uses, 1 if no hull fits on a slip.", () -> {
            edges.is("no hulls", 1, new PuddleBoatyard().bestUses());
            edges.is("none long enough", 1, Yards.withHulls(0, 1).bestUses());
            edges.is("none built", 1, Yards.sixAfloat().bestUses());
            PuddleBoatyard noSlips = Yards.withHulls(2, 8);
            for (int slip = 0; slip < 4; slip++) {
                noSlips.setSlip(slip, 1);
            }
            edges.is("no slip long enough", 1, noSlips.bestUses());
            edges.is("one fits on one", 1, Yards.withHulls(8).bestUses());
            edges.is("one fits on two", 2, Yards.withHulls(6).bestUses());
            edges.is("only one way", 1, chain().bestUses());
            PuddleBoatyard most = Yards.withHulls(2, 2, 2, 2, 2, 2);
            edges.is("the most", 360, most.bestUses());
            most.setSlip(0, 0);
            edges.is("fewer, asked again", 120, most.bestUses());
            edges.is("the same, asked once more", 120, most.bestUses());
        });
        edges.at(35, "Returns the number of uses of the slips with the greatest number of hulls.", () ->
                edges.is("uses with fewer hulls do not count", 1, Yards.withHulls(6, 7).bestUses()));
    }

    /** Each hull fits on one slip less than the one before it, which comes first and finds the longest slip first. */
    private static PuddleBoatyard chain() {
        PuddleBoatyard yard = Yards.withHulls(2, 4, 6, 8);
        for (int slip = 0; slip < 4; slip++) {
            yard.setSlip(slip, 8 - 2 * slip);
        }
        return yard;
    }
}
