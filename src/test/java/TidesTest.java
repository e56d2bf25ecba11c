/** Promises 24 to 30: tides and hours. */
public final class TidesTest {
    private static final Check check = new Check("TidesTest");

    public static void main(String[] args) {
        setTide();
        hoursAndTides();
        leaking();
        sinking();
        hoursToLaunch();
        hoursToSinking();
        check.end();
    }

    /** Promise 24. */
    private static void setTide() {
        PuddleBoatyard yard = new PuddleBoatyard();
        int[] first = {0, 4, 8, 12, 16, 20, 24, 20, 16, 12, 8, 4};
        for (int tide = 0; tide < 12; tide++) {
            check.is("24 first " + tide, first[tide], yard.setTide(tide, 50 - tide));
        }
        for (int tide = 0; tide < 12; tide++) {
            check.is("24 set " + tide, 50 - tide, yard.tideAfter(tide));
        }
        check.is("24 lowest", 50, yard.setTide(0, 0));
        check.fails("24 tide", IllegalArgumentException.class, () -> yard.setTide(12, 0));
        check.fails("24 negative tide", IllegalArgumentException.class, () -> yard.setTide(-1, 0));
        check.fails("24 height", IllegalArgumentException.class, () -> yard.setTide(0, 51));
        check.fails("24 negative height", IllegalArgumentException.class, () -> yard.setTide(0, -1));
    }

    /** Promises 25 to 27. */
    private static void hoursAndTides() {
        PuddleBoatyard yard = new PuddleBoatyard();
        check.is("26 first", 0, yard.hour());
        check.is("25 one", 0, yard.pass(1));
        check.is("26 one", 1, yard.hour());
        check.is("25 most", 0, yard.pass(99));
        check.is("26 hundred", 100, yard.hour());
        check.is("27 now", 16, yard.tideAfter(0));
        check.is("27 in two hours", 24, yard.tideAfter(2));
        check.is("27 in eight hours", 0, yard.tideAfter(8));
        check.is("27 farthest", 20, yard.tideAfter(999));
        check.fails("25 none", IllegalArgumentException.class, () -> yard.pass(0));
        check.fails("25 too many", IllegalArgumentException.class, () -> yard.pass(100));
        check.fails("25 negative", IllegalArgumentException.class, () -> yard.pass(-1));
        check.fails("27 negative", IllegalArgumentException.class, () -> yard.tideAfter(-1));
        check.fails("27 too far", IllegalArgumentException.class, () -> yard.tideAfter(1000));
        check.is("26 unchanged", 100, yard.hour());
    }

    /** Promise 25: the water of an hour comes before the wear, and the caulking ends at 0. */
    private static void leaking() {
        PuddleBoatyard yard = Yards.withHulls(3, 3);
        yard.setTide(0, 50);
        yard.launch(0);
        yard.pass(5);
        check.is("25 tight", "0a 5|5~9 5|5~9 5|5", Yards.line(yard, 0));
        yard.pass(1);
        check.is("25 worn", "0a 5|5~8 5|5~8 5|5", Yards.line(yard, 0));
        check.is("25 water before wear", 0, yard.waterIn(0));
        yard.caulk(0, 1);
        yard.pass(1);
        check.is("25 one seam leaks", 1, yard.waterIn(0));
        yard.pass(5);
        check.is("25 a day", "0a 5|5~7 5|5~8 5|5", Yards.line(yard, 0));
        check.is("25 a day's water", 6, yard.waterIn(0));
        check.is("25 built hulls stay dry", 0, yard.waterIn(1));
        check.is("25 and tight", 9, yard.caulkingOf(1, 0));
        for (int days = 0; days < 8; days++) {
            yard.pass(6);
            yard.pump(0, 999);
        }
        check.is("25 worn to nothing", "0a 5|5~0 5|5~0 5|5", Yards.line(yard, 0));
        yard.pass(6);
        check.is("25 stays nothing", 0, yard.caulkingOf(0, 0));
        check.is("25 nine a seam", 108, yard.waterIn(0));
    }

    /** Promise 25: hulls sink, and keep what they had. */
    private static void sinking() {
        PuddleBoatyard yard = Yards.withAllStates();
        check.is("25 sunk", PuddleBoatyard.SUNK, yard.stateOf(3));
        check.is("25 weight kept", 1019, yard.weightOf(3));
        yard.setCargo(1, 380);
        check.is("25 just floats", 0, yard.pass(5));
        check.is("25 the first unit sinks it", 1, yard.pass(99));
        check.is("25 water kept", 1, yard.waterIn(1));
        check.is("25 caulking kept", 8, yard.caulkingOf(1, 0));
        check.is("25 sunk hulls stay", 0, yard.pass(99));
        check.is("25 water stays", 1, yard.waterIn(1));
        check.is("25 delivered stays dry", 0, yard.waterIn(2));
        PuddleBoatyard two = Yards.withHulls(2, 2, 2);
        two.setTide(0, 50);
        two.launch(0);
        two.launch(1);
        two.launch(2);
        two.setCargo(0, 999);
        two.setCargo(2, 380);
        check.is("25 two sink", 2, two.pass(8));
        check.is("43 two sunk", 2, two.hullsIn(PuddleBoatyard.SUNK));
    }

    /** Promises 28 and 29. */
    private static void hoursToLaunch() {
        PuddleBoatyard yard = Yards.withHulls(2, 2, 1, 0, 2);
        waitIs(yard, 0, 1);
        yard.setCargo(0, 100);
        waitIs(yard, 0, 3);
        yard.pass(4);
        waitIs(yard, 0, 0);
        yard.pass(6);
        waitIs(yard, 0, 5);
        yard.setCargo(0, 221);
        waitIs(yard, 0, "throws NoSuchElementException");
        yard.setCargo(0, 220);
        waitIs(yard, 0, 8);
        yard.setTide(9, 25);
        yard.setTide(6, 24);
        yard.setCargo(0, 221);
        waitIs(yard, 0, 11);
        yard.setTide(9, 24);
        yard.setTide(0, 25);
        waitIs(yard, 0, 2);
        waitIs(yard, 2, "throws NoSuchElementException");
        waitIs(yard, 3, "throws NoSuchElementException");
        yard.setCargo(4, 381);
        waitIs(yard, 4, "throws NoSuchElementException");
        waitIs(yard, 5, "throws IndexOutOfBoundsException");
        waitIs(yard, -1, "throws IndexOutOfBoundsException");
        yard.launch(1);
        waitIs(yard, 1, "throws IllegalStateException");
        PuddleBoatyard states = Yards.withAllStates();
        waitIs(states, 0, 0);
        waitIs(states, 2, "throws IllegalStateException");
        waitIs(states, 3, "throws IllegalStateException");
    }

    private static void waitIs(PuddleBoatyard yard, int hull, Object want) {
        check.is("28 hull " + hull, want, Check.outcome(() -> yard.hoursToLaunch(hull)));
        check.is("29 hull " + hull, want, Check.outcome(() -> yard.hoursToLaunchByTides(hull)));
    }

    /** Promise 30. */
    private static void hoursToSinking() {
        PuddleBoatyard yard = Yards.withHulls(2, 8, 2);
        yard.setTide(0, 50);
        check.fails("30 built", IllegalStateException.class, () -> yard.hoursToSinking(0));
        yard.launch(0);
        yard.launch(1);
        yard.setCargo(0, 380);
        check.is("30 the first water", 7, yard.hoursToSinking(0));
        yard.setCargo(0, 381);
        check.is("30 already too heavy", 1, yard.hoursToSinking(0));
        yard.setCargo(0, 0);
        String before = Yards.seen(yard);
        int hours = yard.hoursToSinking(0);
        check.is("30 nothing passes", before, Yards.seen(yard));
        yard.save();
        check.is("30 not before", 0, passAll(yard, hours - 1));
        check.is("30 then", 1, yard.pass(1));
        check.fails("30 sunk", IllegalStateException.class, () -> yard.hoursToSinking(0));
        yard.restore();
        yard.pass(4);
        check.is("30 four hours later", hours - 4, yard.hoursToSinking(0));
        check.fails("30 hull", IndexOutOfBoundsException.class, () -> yard.hoursToSinking(3));
        check.fails("30 negative hull", IndexOutOfBoundsException.class, () -> yard.hoursToSinking(-1));
        check.fails("30 delivered", IllegalStateException.class, () -> Yards.withAllStates().hoursToSinking(2));
        latestSinking();
    }

    /**
     * The widest hulls last longest. A seam lets in 216 units in its first 54 hours and then 9 an hour, and
     * carries 2400 at most: no hull that is afloat lasts for 500 hours, so the last exception never comes.
     */
    private static void latestSinking() {
        int[] hours = {284, 287, 288, 289, 289, 289, 290};
        for (int frames = 2; frames <= 8; frames++) {
            PuddleBoatyard yard = new PuddleBoatyard();
            yard.beginHull();
            for (int frame = 0; frame < frames; frame++) {
                yard.addFrame(0, 30, 30);
            }
            yard.setTide(0, 50);
            yard.launch(0);
            check.is("30 " + frames + " wide frames", hours[frames - 2], yard.hoursToSinking(0));
        }
    }

    private static int passAll(PuddleBoatyard yard, int hours) {
        int sunk = 0;
        for (int left = hours; left > 0; left -= 99) {
            sunk += yard.pass(Math.min(left, 99));
        }
        return sunk;
    }
}
