/** Promises 1 to 19: hulls. */
public final class HullsTest {
    private static final Check check = new Check("HullsTest");

    public static void main(String[] args) {
        newObject();
        beginHull();
        addFrame();
        mirror();
        setCargo();
        launch();
        launchRefused();
        caulk();
        pump();
        readings();
        draughts();
        widthsAtSeams();
        heel();
        ranks();
        fullYard();
        check.end();
    }

    /** Promise 1. */
    private static void newObject() {
        PuddleBoatyard yard = new PuddleBoatyard();
        check.is("1 seen", "hour 0 paid 0\ntides 0 4 8 12 16 20 24 20 16 12 8 4\nslips 2 4 6 8\norders",
                Yards.seen(yard));
        check.is("1 hulls", 0, yard.hullCount());
        check.is("1 orders", 0, yard.orderCount());
        check.is("1 remembered", "throws NoSuchElementException, throws NoSuchElementException, "
                + "throws NoSuchElementException", Yards.remembered(yard));
        check.fails("1 nothing to undo", IllegalStateException.class, yard::undo);
        check.fails("1 no snapshot", IllegalStateException.class, yard::restore);
    }

    /** Promises 2 and 9. */
    private static void beginHull() {
        PuddleBoatyard yard = new PuddleBoatyard();
        for (int hull = 0; hull < 6; hull++) {
            check.is("9 before", hull, yard.hullCount());
            check.is("2 begins", hull, yard.beginHull());
            check.is("2 built", PuddleBoatyard.BUILT, yard.stateOf(hull));
            check.is("2 frames", 0, yard.frameCount(hull));
            check.is("2 weight", 0, yard.weightOf(hull));
        }
        check.fails("2 a seventh", IllegalStateException.class, yard::beginHull);
        check.is("9 after", 6, yard.hullCount());
    }

    /** Promises 3, 11 and 12. */
    private static void addFrame() {
        PuddleBoatyard yard = Yards.withHulls(0, 0);
        int[][] widths = {{1, 30}, {30, 1}, {7, 8}, {2, 2}, {3, 9}, {4, 4}, {5, 6}, {29, 28}};
        for (int i = 0; i < widths.length; i++) {
            check.is("3 adds", i + 1, yard.addFrame(0, widths[i][0], widths[i][1]));
        }
        for (int i = 0; i < widths.length; i++) {
            check.is("12 left", widths[i][0], yard.widthOf(0, i, true));
            check.is("12 right", widths[i][1], yard.widthOf(0, i, false));
        }
        check.is("11 full", 8, yard.frameCount(0));
        check.is("11 other", 0, yard.frameCount(1));
        check.is("13 new seam", 9, yard.caulkingOf(0, 6));
        check.fails("3 a ninth", IllegalStateException.class, () -> yard.addFrame(0, 1, 1));
        check.fails("3 hull before width", IndexOutOfBoundsException.class, () -> yard.addFrame(2, 0, 0));
        check.fails("3 negative hull", IndexOutOfBoundsException.class, () -> yard.addFrame(-1, 1, 1));
        check.fails("3 width before state", IllegalArgumentException.class, () -> yard.addFrame(0, 0, 1));
        check.fails("3 left too wide", IllegalArgumentException.class, () -> yard.addFrame(1, 31, 1));
        check.fails("3 left zero", IllegalArgumentException.class, () -> yard.addFrame(1, 0, 1));
        check.fails("3 right too wide", IllegalArgumentException.class, () -> yard.addFrame(1, 1, 31));
        check.fails("3 right zero", IllegalArgumentException.class, () -> yard.addFrame(1, 1, 0));
        check.is("3 nothing changed", 0, yard.frameCount(1));
        check.fails("11 hull", IndexOutOfBoundsException.class, () -> yard.frameCount(2));
        check.fails("11 negative hull", IndexOutOfBoundsException.class, () -> yard.frameCount(-1));
        check.fails("12 hull", IndexOutOfBoundsException.class, () -> yard.widthOf(2, 0, true));
        check.fails("12 frame", IndexOutOfBoundsException.class, () -> yard.widthOf(0, 8, true));
        check.fails("12 no frames", IndexOutOfBoundsException.class, () -> yard.widthOf(1, 0, false));
        check.fails("12 negative frame", IndexOutOfBoundsException.class, () -> yard.widthOf(0, -1, true));
        PuddleBoatyard states = Yards.withAllStates();
        check.is("3 built", 3, states.addFrame(0, 1, 1));
        for (int hull = 1; hull < 4; hull++) {
            int number = hull;
            check.fails("3 not built", IllegalStateException.class, () -> states.addFrame(number, 1, 1));
        }
    }

    /** Promise 4. */
    private static void mirror() {
        PuddleBoatyard yard = Yards.withHulls(0, 0);
        yard.addFrame(0, 1, 2);
        yard.addFrame(0, 3, 3);
        yard.addFrame(0, 5, 4);
        check.is("4 changes", 2, yard.mirror(0));
        check.is("4 widths", "0b 2|1~9 3|3~9 4|5", Yards.line(yard, 0));
        check.is("4 back", 2, yard.mirror(0));
        check.is("4 widths back", "0b 1|2~9 3|3~9 5|4", Yards.line(yard, 0));
        check.is("4 no frames", 0, yard.mirror(1));
        check.fails("4 hull", IndexOutOfBoundsException.class, () -> yard.mirror(2));
        check.fails("4 negative hull", IndexOutOfBoundsException.class, () -> yard.mirror(-1));
        PuddleBoatyard states = Yards.withAllStates();
        check.is("4 built", 0, states.mirror(0));
        for (int hull = 1; hull < 4; hull++) {
            int number = hull;
            check.fails("4 not built", IllegalStateException.class, () -> states.mirror(number));
        }
    }

    /** Promise 5. */
    private static void setCargo() {
        PuddleBoatyard yard = Yards.withAllStates();
        check.is("5 built", 0, yard.setCargo(0, 999));
        check.is("5 previous", 999, yard.setCargo(0, 7));
        check.is("5 weight", 27, yard.weightOf(0));
        check.is("5 afloat", 0, yard.setCargo(1, 999));
        check.is("5 does not sink", PuddleBoatyard.AFLOAT, yard.stateOf(1));
        check.fails("5 cannot float", java.util.NoSuchElementException.class, () -> yard.draughtOf(1));
        check.is("5 back", 999, yard.setCargo(1, 0));
        check.is("5 the hour spares it", 0, yard.pass(1));
        check.fails("5 delivered", IllegalStateException.class, () -> yard.setCargo(2, 1));
        check.fails("5 sunk", IllegalStateException.class, () -> yard.setCargo(3, 1));
        check.fails("5 range before state", IllegalArgumentException.class, () -> yard.setCargo(3, 1000));
        check.fails("5 negative cargo", IllegalArgumentException.class, () -> yard.setCargo(0, -1));
        check.fails("5 too much", IllegalArgumentException.class, () -> yard.setCargo(0, 1000));
        check.fails("5 hull first", IndexOutOfBoundsException.class, () -> yard.setCargo(4, 1000));
        check.fails("5 negative hull", IndexOutOfBoundsException.class, () -> yard.setCargo(-1, 0));
        check.is("5 nothing changed", 7, yard.setCargo(0, 0));
    }

    /** Promise 6, and the states of promise 10. */
    private static void launch() {
        PuddleBoatyard yard = Yards.withHulls(2, 2);
        yard.setTide(0, 2);
        check.is("6 draught", 2, yard.launch(0));
        check.is("6 afloat", PuddleBoatyard.AFLOAT, yard.stateOf(0));
        check.is("10 built", PuddleBoatyard.BUILT, yard.stateOf(1));
        check.fails("6 hull", IndexOutOfBoundsException.class, () -> yard.launch(2));
        check.fails("6 negative hull", IndexOutOfBoundsException.class, () -> yard.launch(-1));
        check.fails("10 hull", IndexOutOfBoundsException.class, () -> yard.stateOf(2));
        check.fails("10 negative hull", IndexOutOfBoundsException.class, () -> yard.stateOf(-1));
        PuddleBoatyard states = Yards.withAllStates();
        for (int hull = 0; hull < 4; hull++) {
            check.is("10 states", hull, states.stateOf(hull));
        }
        for (int hull = 1; hull < 4; hull++) {
            int number = hull;
            check.fails("6 not built", IllegalStateException.class, () -> states.launch(number));
        }
        check.fails("44 a wrong state is no refusal", java.util.NoSuchElementException.class, states::refusalReason);
    }

    /** Promises 6 and 44. */
    private static void launchRefused() {
        Class<UnsupportedOperationException> refused = UnsupportedOperationException.class;
        PuddleBoatyard yard = Yards.withHulls(0, 1, 2, 2);
        check.fails("44 none so far", java.util.NoSuchElementException.class, yard::refusalReason);
        yard.setCargo(2, 381);
        check.fails("6 low tide", refused, () -> yard.launch(3));
        check.is("44 low tide", PuddleBoatyard.LOW_TIDE, yard.refusalReason());
        check.fails("6 too short", refused, () -> yard.launch(1));
        check.is("44 too short, though too heavy", PuddleBoatyard.TOO_SHORT, yard.refusalReason());
        check.fails("6 too heavy", refused, () -> yard.launch(2));
        check.is("44 too heavy, though the tide is low", PuddleBoatyard.TOO_HEAVY, yard.refusalReason());
        check.fails("6 empty", refused, () -> yard.launch(0));
        check.is("44 empty is too short", PuddleBoatyard.TOO_SHORT, yard.refusalReason());
        check.is("6 still built", 4, yard.hullsIn(PuddleBoatyard.BUILT));
        yard.setCargo(2, 380);
        yard.setTide(0, 39);
        check.fails("6 one too low", refused, () -> yard.launch(2));
        check.is("44 one too low", PuddleBoatyard.LOW_TIDE, yard.refusalReason());
        yard.setTide(0, 40);
        check.is("6 just high enough", 40, yard.launch(2));
        check.is("44 a launch keeps it", PuddleBoatyard.LOW_TIDE, yard.refusalReason());
    }

    /** Promises 7 and 13. */
    private static void caulk() {
        PuddleBoatyard yard = Yards.withHulls(4, 3, 1);
        yard.setTide(0, 50);
        yard.launch(0);
        yard.pass(18);
        check.is("13 worn", 6, yard.caulkingOf(0, 1));
        check.is("13 built is not worn", 9, yard.caulkingOf(1, 1));
        check.is("7 previous", 6, yard.caulk(0, 1));
        check.is("7 tight", 9, yard.caulkingOf(0, 1));
        check.is("7 only this seam", 6, yard.caulkingOf(0, 2));
        check.is("7 last seam", 6, yard.caulk(0, 2));
        check.is("7 built", 9, yard.caulk(1, 0));
        check.fails("7 seam", IndexOutOfBoundsException.class, () -> yard.caulk(0, 3));
        check.fails("7 negative seam", IndexOutOfBoundsException.class, () -> yard.caulk(0, -1));
        check.fails("7 no seams", IndexOutOfBoundsException.class, () -> yard.caulk(2, 0));
        check.fails("7 hull", IndexOutOfBoundsException.class, () -> yard.caulk(3, 0));
        check.fails("13 seam", IndexOutOfBoundsException.class, () -> yard.caulkingOf(0, 3));
        check.fails("13 negative seam", IndexOutOfBoundsException.class, () -> yard.caulkingOf(0, -1));
        check.fails("13 no seams", IndexOutOfBoundsException.class, () -> yard.caulkingOf(2, 0));
        check.fails("13 hull", IndexOutOfBoundsException.class, () -> yard.caulkingOf(3, 0));
        PuddleBoatyard states = Yards.withAllStates();
        for (int hull = 2; hull < 4; hull++) {
            int number = hull;
            check.fails("7 state", IllegalStateException.class, () -> states.caulk(number, 0));
            check.fails("7 seam first", IndexOutOfBoundsException.class, () -> states.caulk(number, 1));
            check.is("13 in every state", 9, states.caulkingOf(number, 0));
        }
    }

    /** Promises 8 and 14. */
    private static void pump() {
        PuddleBoatyard yard = Yards.withHulls(3);
        yard.setTide(0, 50);
        yard.launch(0);
        yard.pass(12);
        check.is("14 water", 12, yard.waterIn(0));
        check.is("8 one", 11, yard.pump(0, 1));
        check.is("14 after", 11, yard.waterIn(0));
        check.is("8 more than there is", 0, yard.pump(0, 999));
        check.is("8 nothing left", 0, yard.pump(0, 5));
        check.fails("8 zero", IllegalArgumentException.class, () -> yard.pump(0, 0));
        check.fails("8 too many", IllegalArgumentException.class, () -> yard.pump(0, 1000));
        check.fails("8 hull first", IndexOutOfBoundsException.class, () -> yard.pump(1, 0));
        check.fails("8 negative hull", IndexOutOfBoundsException.class, () -> yard.pump(-1, 1));
        check.fails("14 hull", IndexOutOfBoundsException.class, () -> yard.waterIn(1));
        check.fails("14 negative hull", IndexOutOfBoundsException.class, () -> yard.waterIn(-1));
        PuddleBoatyard states = Yards.withAllStates();
        check.is("8 afloat", 0, states.pump(1, 1));
        for (int hull : new int[] {0, 2, 3}) {
            check.fails("8 not afloat", IllegalStateException.class, () -> states.pump(hull, 999));
            check.fails("8 range before state", IllegalArgumentException.class, () -> states.pump(hull, 0));
        }
    }

    /** Promise 15. */
    private static void readings() {
        PuddleBoatyard yard = Yards.withHulls(3, 0);
        yard.setCargo(0, 100);
        yard.setTide(0, 50);
        yard.launch(0);
        yard.pass(8);
        check.is("15 widths, cargo and water", 30 + 100 + 4, yard.weightOf(0));
        check.is("15 nothing", 0, yard.weightOf(1));
        check.fails("15 hull", IndexOutOfBoundsException.class, () -> yard.weightOf(2));
        check.fails("15 negative hull", IndexOutOfBoundsException.class, () -> yard.weightOf(-1));
    }

    /** Promises 16 and 17. */
    private static void draughts() {
        PuddleBoatyard yard = Yards.withHulls(0, 1, 0);
        draughtsAre(yard, 0, 0);
        draughtsAre(yard, 1, "throws NoSuchElementException");
        yard.setCargo(0, 1);
        draughtsAre(yard, 0, "throws NoSuchElementException");
        // The seams' widths come to 11, so the draught 1 carries 5 and the draught 3 carries 16.
        yard.addFrame(2, 3, 3);
        yard.addFrame(2, 3, 2);
        draughtsAre(yard, 2, 2);
        yard.setCargo(2, 5);
        draughtsAre(yard, 2, 3);
        yard.setCargo(2, 6);
        draughtsAre(yard, 2, 4);
        yard.setCargo(2, 209);
        draughtsAre(yard, 2, 40);
        yard.setCargo(2, 210);
        draughtsAre(yard, 2, "throws NoSuchElementException");
        draughtsAre(yard, 3, "throws IndexOutOfBoundsException");
        draughtsAre(yard, -1, "throws IndexOutOfBoundsException");
        // Each seam halves for itself would lose a unit: (6 + 5) + (5 + 6) = 22, at 1 it carries 11.
        PuddleBoatyard odd = Yards.withHulls(0);
        odd.addFrame(0, 1, 2);
        odd.addFrame(0, 1, 1);
        odd.addFrame(0, 1, 2);
        odd.setCargo(0, 2);
        draughtsAre(odd, 0, 2);
        for (int cargo = 0; cargo <= 210; cargo++) {
            yard.setCargo(2, cargo);
            check.is("17 the same", Check.outcome(() -> yard.draughtOf(2)), Check.outcome(() -> yard.draughtByHalving(2)));
        }
    }

    private static void draughtsAre(PuddleBoatyard yard, int hull, Object want) {
        check.is("16 draught", want, Check.outcome(() -> yard.draughtOf(hull)));
        check.is("17 draught", want, Check.outcome(() -> yard.draughtByHalving(hull)));
    }

    /** Promise 18. */
    private static void heel() {
        PuddleBoatyard yard = Yards.withHulls(0, 0);
        yard.addFrame(0, 10, 3);
        yard.addFrame(0, 1, 2);
        check.is("18 to the left", 6, yard.heelOf(0));
        yard.mirror(0);
        check.is("18 to the right", -6, yard.heelOf(0));
        check.is("18 no frames", 0, yard.heelOf(1));
        check.fails("18 hull", IndexOutOfBoundsException.class, () -> yard.heelOf(2));
        check.fails("18 negative hull", IndexOutOfBoundsException.class, () -> yard.heelOf(-1));
    }

    /** Six hulls of eight frames each: the edges of all that is counted through. */
    private static void fullYard() {
        PuddleBoatyard yard = Yards.withHulls(8, 8, 8, 8, 8, 8);
        check.is("4 eight frames", 0, yard.mirror(5));
        check.is("15 eight frames", 80, yard.weightOf(5));
        check.is("18 eight frames", 0, yard.heelOf(5));
        draughtsAre(yard, 5, 2);
        check.is("19 sixth", 5, yard.hullAtRank(5));
        check.is("43 six", 6, yard.hullsIn(PuddleBoatyard.BUILT));
        check.is("45 six", 80.0, yard.meanWeight());
        yard.setTide(0, 50);
        for (int hull = 0; hull < 6; hull++) {
            check.is("6 each", 2, yard.launch(hull));
            yard.addOrder(8, 0, 100);
        }
        check.is("25 none sinks", 0, yard.pass(12));
        check.is("14 seven seams", 42, yard.waterIn(5));
        check.is("41 six", 6 * 88, yard.bestDelivery());
        check.is("25 all sink", 6, yard.pass(99));
    }

    /** The four widths at a seam count each for itself. */
    private static void widthsAtSeams() {
        PuddleBoatyard yard = Yards.withHulls(0);
        yard.addFrame(0, 10, 1);
        yard.addFrame(0, 2, 5);
        yard.addFrame(0, 20, 7);
        // 18 at the first seam and 34 at the second one: 26 a draught, for a weight of 45 and the cargo.
        yard.setCargo(0, 26 * 9 - 45);
        draughtsAre(yard, 0, 9);
        yard.setCargo(0, 26 * 9 - 45 + 1);
        draughtsAre(yard, 0, 10);
    }

    /** Promise 19. */
    private static void ranks() {
        PuddleBoatyard yard = Yards.withHulls(2, 1, 1, 0, 2, 1);
        yard.setCargo(5, 10);
        int[] order = {3, 1, 2, 0, 4, 5};
        for (int rank = 0; rank < order.length; rank++) {
            check.is("19 rank " + rank, order[rank], yard.hullAtRank(rank));
        }
        check.fails("19 beyond", java.util.NoSuchElementException.class, () -> yard.hullAtRank(6));
        check.fails("19 negative", java.util.NoSuchElementException.class, () -> yard.hullAtRank(-1));
        PuddleBoatyard empty = new PuddleBoatyard();
        check.fails("19 none", java.util.NoSuchElementException.class, () -> empty.hullAtRank(0));
    }
}
