import java.util.ArrayList;
import java.util.List;

/** Promises 52 to 54: undo and snapshots. */
public final class UndoTest {
    private static final Check check = new Check("UndoTest");

    public static void main(String[] args) {
        everyModification();
        depth();
        orders();
        programs();
        whatIsNotUndone();
        failuresAreNoModifications();
        snapshots();
        snapshotAndUndo();
        check.end();
    }

    /** A yard with hull 0 built, 1 afloat and leaking, 2 delivered and 3 sunk, and two orders. */
    private static PuddleBoatyard busyYard() {
        PuddleBoatyard yard = Yards.withAllStates();
        yard.addFrame(0, 3, 4);
        yard.addOrder(2, 5, 50);
        yard.addOrder(3, 5, 50);
        yard.pass(9);
        return yard;
    }

    /** Promise 52: each of the thirteen calls is undone by one undo. */
    private static void everyModification() {
        undone("beginHull", yard -> yard.beginHull());
        undone("addFrame", yard -> yard.addFrame(0, 1, 2));
        undone("mirror", yard -> yard.mirror(0));
        undone("setCargo", yard -> yard.setCargo(1, 5));
        undone("launch", yard -> yard.launch(0));
        undone("caulk", yard -> yard.caulk(1, 0));
        undone("pump", yard -> yard.pump(1, 1));
        undone("pass", yard -> yard.pass(99));
        undone("setTide", yard -> yard.setTide(4, 1));
        undone("setSlip", yard -> yard.setSlip(2, 1));
        undone("addOrder", yard -> yard.addOrder(4, 4, 4));
        undone("deliver", yard -> yard.deliver(1, 1));
        undone("execute", yard -> Yards.run(yard, "hull;tide 4 1;cargo 0 5;hours 3;deliver 1 1"));
    }

    private interface Modification {
        int on(PuddleBoatyard yard);
    }

    private static void undone(String what, Modification modification) {
        PuddleBoatyard yard = busyYard();
        String before = Yards.seen(yard);
        int answer = modification.on(yard);
        String after = Yards.seen(yard);
        check.is("52 " + what + " shows", false, before.equals(after));
        check.is("52 " + what + " leaves", 7, yard.undo());
        check.is("52 " + what, before, Yards.seen(yard));
        check.is("52 " + what + " again", answer, modification.on(yard));
        check.is("52 " + what + " as before", after, Yards.seen(yard));
        check.is("52 the next id", what.equals("addOrder") ? 4 : 3, yard.addOrder(2, 0, 1));
    }

    /** Promise 52: eight modifications, also such that change nothing. */
    private static void depth() {
        PuddleBoatyard yard = new PuddleBoatyard();
        List<String> seen = new ArrayList<>();
        for (int tide = 0; tide < 12; tide++) {
            seen.add(Yards.seen(yard));
            yard.setTide(tide, 33);
        }
        for (int left = 7; left >= 0; left--) {
            check.is("52 left", left, yard.undo());
            check.is("52 seen", seen.get(left + 4), Yards.seen(yard));
        }
        check.fails("52 no ninth", IllegalStateException.class, yard::undo);
        check.is("52 unchanged", seen.get(4), Yards.seen(yard));
        yard.setTide(5, 5);
        yard.setTide(5, 5);
        check.is("52 no change counts too", 1, yard.undo());
        check.is("52 still set", 5, yard.tideAfter(5));
        check.is("52 last", 0, yard.undo());
        check.is("52 not set", 20, yard.tideAfter(5));
        // Between undo and undo, new modifications take the places of the undone ones.
        for (int i = 0; i < 9; i++) {
            yard.setSlip(0, i % 8);
        }
        check.is("52 nine, back to eight", 7, yard.undo());
        check.is("52 further", 6, yard.undo());
        yard.setSlip(0, 8);
        check.is("52 new one", 6, yard.undo());
        check.is("52 before it", 6, yard.slipLength(0));
        for (int left = 5; left >= 0; left--) {
            check.is("52 left again", left, yard.undo());
            check.is("52 slip", left, yard.slipLength(0));
        }
        check.fails("52 first was too long ago", IllegalStateException.class, yard::undo);
    }

    /** Promise 52: an order comes back with all that it asks for. */
    private static void orders() {
        PuddleBoatyard yard = Yards.withHulls(2, 3);
        yard.setTide(0, 50);
        yard.launch(0);
        yard.launch(1);
        yard.addOrder(2, 1, 100);
        yard.addOrder(3, 9, 200);
        yard.pass(11);
        check.is("37 late", 90, yard.deliver(0, 0));
        check.is("52 taken back", 7, yard.undo());
        check.is("52 nothing paid", 0L, yard.paidCoins());
        check.is("52 first order", 90, yard.coinsFor(0));
        check.is("52 second order", 198, yard.coinsFor(1));
        check.fails("52 its frames", IllegalStateException.class, () -> yard.deliver(0, 1));
        check.is("52 in their places", 1, yard.orderAt(1));
        check.is("37 second order", 198, yard.deliver(1, 1));
    }

    /** Promises 49 and 52: a program is one modification. */
    private static void programs() {
        PuddleBoatyard yard = new PuddleBoatyard();
        Yards.run(yard, "hull;hull;tide 0 50;hours 3");
        check.is("52 one", 0, yard.undo());
        check.is("52 no hulls", 0, yard.hullCount());
        check.is("52 no hours", 0, yard.hour());
        check.fails("52 no more", IllegalStateException.class, yard::undo);
        for (int i = 0; i < 9; i++) {
            Yards.run(yard, "order 2 0 1;tide 0 " + i);
            check.is("36 the undone id is given again", 0, yard.orderAt(0));
            yard.undo();
            Yards.run(yard, "tide 0 " + i + ";tide 1 1");
        }
        check.is("52 eight programs", 7, yard.undo());
        check.is("52 tide", 7, yard.tideAfter(0));
    }

    /** Terms: buffer, error position, failed command, refusal and line. */
    private static void whatIsNotUndone() {
        PuddleBoatyard yard = Yards.withHulls(2, 1);
        yard.save();
        yard.beginHull();
        check.fails("refused", UnsupportedOperationException.class, () -> yard.launch(1));
        check.fails("failed", IllegalStateException.class, () -> Yards.run(yard, "hull;mirror 7"));
        check.fails("malformed", IllegalArgumentException.class, () -> Yards.run(yard, "hull;m7"));
        yard.writeHull(0);
        Yards.typeAll(yard, "mirror 0");
        String remembered = Yards.remembered(yard);
        check.is("remembered", "1, 6, 1", remembered);
        yard.undo();
        check.is("52 undone", 2, yard.hullCount());
        check.is("52 remembered", remembered, Yards.remembered(yard));
        check.is("52 line", '|', yard.lineAt(4));
        yard.restore();
        check.is("54 remembered", remembered, Yards.remembered(yard));
        check.is("54 line", '|', yard.lineAt(4));
        check.is("54 buffer", 9, yard.type(';'));
        Yards.typeAll(yard, "hull");
        check.is("49 as typed", 2, yard.execute());
        yard.undo();
        check.is("52 the buffer stays empty", 1, yard.type('x'));
    }

    private static void failuresAreNoModifications() {
        PuddleBoatyard yard = Yards.withHulls(2);
        for (int i = 0; i < 9; i++) {
            check.fails("mirror", IndexOutOfBoundsException.class, () -> yard.mirror(1));
            check.fails("launch", UnsupportedOperationException.class, () -> yard.launch(0));
            check.fails("execute", IllegalStateException.class, () -> Yards.run(yard, "hull;launch 0"));
            yard.type('1');
            yard.save();
            yard.writeHull(0);
            yard.hoursToLaunch(0);
            check.fails("execute", IllegalArgumentException.class, yard::execute);
        }
        check.is("52 still three", 2, yard.undo());
        check.is("52 one frame", 1, yard.frameCount(0));
    }

    /** Promises 53 and 54. */
    private static void snapshots() {
        PuddleBoatyard yard = busyYard();
        check.fails("54 none", IllegalStateException.class, yard::restore);
        check.is("53 hour", 10, yard.save());
        String saved = Yards.seen(yard);
        yard.pass(7);
        yard.deliver(1, 1);
        yard.beginHull();
        yard.setSlip(1, 0);
        yard.setTide(1, 0);
        yard.addFrame(0, 9, 9);
        check.is("54 hour", 10, yard.restore());
        check.is("54 as saved", saved, Yards.seen(yard));
        check.fails("54 nothing to undo", IllegalStateException.class, yard::undo);
        check.is("36 the next id", 3, yard.addOrder(2, 0, 1));
        yard.addFrame(0, 1, 1);
        check.is("52 new ones", 1, yard.undo());
        yard.pass(1);
        check.is("54 is kept", 10, yard.restore());
        check.is("54 as saved again", saved, Yards.seen(yard));
        check.is("36 the same id", 3, yard.addOrder(2, 0, 1));
        yard.pass(5);
        check.is("53 replaces", 15, yard.save());
        String later = Yards.seen(yard);
        yard.pass(5);
        check.is("54 later", 15, yard.restore());
        check.is("54 as saved later", later, Yards.seen(yard));
    }

    /** To save is no modification: undo neither counts it nor takes it back. */
    private static void snapshotAndUndo() {
        PuddleBoatyard yard = new PuddleBoatyard();
        yard.beginHull();
        yard.save();
        check.is("52 only the hull", 0, yard.undo());
        check.is("52 no hull", 0, yard.hullCount());
        check.is("54 the snapshot stands", 0, yard.restore());
        check.is("54 its hull", 1, yard.hullCount());
    }
}
