/** Promises 31 to 35: slips. */
public final class SlipsTest {
    private static final Check check = new Check("SlipsTest");

    public static void main(String[] args) {
        lengths();
        uses();
        onlyBuiltHulls();
        check.end();
    }

    /** Promises 31 and 32. */
    private static void lengths() {
        PuddleBoatyard yard = new PuddleBoatyard();
        for (int slip = 0; slip < 4; slip++) {
            check.is("32 first", 2 * slip + 2, yard.slipLength(slip));
            check.is("31 previous", 2 * slip + 2, yard.setSlip(slip, 8 - slip));
        }
        for (int slip = 0; slip < 4; slip++) {
            check.is("32 set", 8 - slip, yard.slipLength(slip));
        }
        check.is("31 shortest", 8, yard.setSlip(0, 0));
        check.is("32 shortest", 0, yard.slipLength(0));
        check.fails("31 slip", IllegalArgumentException.class, () -> yard.setSlip(4, 0));
        check.fails("31 negative slip", IllegalArgumentException.class, () -> yard.setSlip(-1, 0));
        check.fails("31 length", IllegalArgumentException.class, () -> yard.setSlip(0, 9));
        check.fails("31 negative length", IllegalArgumentException.class, () -> yard.setSlip(0, -1));
        check.fails("32 slip", IllegalArgumentException.class, () -> yard.slipLength(4));
        check.fails("32 negative slip", IllegalArgumentException.class, () -> yard.slipLength(-1));
    }

    /** Promises 33 to 35. */
    private static void uses() {
        planIs("none", Yards.withHulls(), 0, 1);
        planIs("no frames", Yards.withHulls(0, 1), 0, 1);
        planIs("one on four", Yards.withHulls(2), 1, 4);
        planIs("one on one", Yards.withHulls(8), 1, 1);
        planIs("two long ones", Yards.withHulls(8, 8), 1, 2);
        planIs("one of each", Yards.withHulls(2, 4, 6, 8), 4, 1);
        planIs("the short ones first", Yards.withHulls(2, 2, 2, 2), 4, 24);
        planIs("six for four", Yards.withHulls(2, 2, 2, 2, 2, 2), 4, 360);
        planIs("six long ones", Yards.withHulls(7, 7, 7, 7, 7, 7), 1, 6);
        // The short hulls come first and take the long slips, if nobody makes room.
        PuddleBoatyard moving = Yards.withHulls(2, 3, 5, 8);
        setSlips(moving, 8, 5, 3, 2);
        planIs("moving", moving, 4, 1);
        PuddleBoatyard chain = Yards.withHulls(2, 2, 2, 8);
        setSlips(chain, 8, 2, 2, 2);
        planIs("moving for the last one", chain, 4, 6);
        // Nobody can make room for the last hull: a search that asks a slip twice loses the third one.
        PuddleBoatyard circle = Yards.withHulls(2, 3, 7, 3);
        setSlips(circle, 6, 8, 2, 2);
        planIs("no room for the last one", circle, 3, 8);
        PuddleBoatyard none = Yards.withHulls(2, 3, 4);
        setSlips(none, 0, 1, 1, 0);
        planIs("no slip is long enough", none, 0, 1);
        PuddleBoatyard two = Yards.withHulls(3, 3, 4);
        setSlips(two, 3, 4, 1, 0);
        planIs("two of three", two, 2, 4);
    }

    /** Promises 33 to 35: a hull that was launched needs no slip. */
    private static void onlyBuiltHulls() {
        PuddleBoatyard yard = Yards.withAllStates();
        planIs("one of four is built", yard, 1, 4);
        yard.launch(0);
        planIs("none is built", yard, 0, 1);
    }

    private static void setSlips(PuddleBoatyard yard, int... lengths) {
        for (int slip = 0; slip < lengths.length; slip++) {
            yard.setSlip(slip, lengths[slip]);
        }
    }

    private static void planIs(String what, PuddleBoatyard yard, int most, int uses) {
        check.is("33 " + what, most, yard.mostOnSlips());
        check.is("34 " + what, most, yard.mostOnSlipsByLengths());
        check.is("35 " + what, uses, yard.bestUses());
    }
}
