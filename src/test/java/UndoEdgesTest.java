import java.util.ArrayList;
import java.util.List;

/** The edges that promises 52 to 54 name: undo and snapshots. */
public final class UndoEdgesTest {
    private static final Edges edges = new Edges("UndoEdgesTest", 52, 54);

    /** Each of the thirteen modifications, as {@link #busy} allows it, and such that it shows. */
    private static final Edges.Call[] EACH = {PuddleBoatyard::beginHull, yard -> yard.addFrame(0, 1, 1),
        yard -> yard.mirror(0), yard -> yard.setCargo(1, 0), yard -> yard.launch(0), yard -> yard.caulk(1, 0),
        yard -> yard.pump(1, 1), yard -> yard.pass(99), yard -> yard.setTide(0, 0), yard -> yard.setSlip(0, 0),
        yard -> yard.addOrder(2, 0, 1), yard -> yard.deliver(1, 1), yard -> Yards.run(yard, "hull;deliver 1 1")};

    public static void main(String[] args) {
        undo();
        undoOfEach();
        save();
        restore();
        nothingToUndo();
        longRuns();
        edges.end();
    }

    private static PuddleBoatyard modified(int times) {
        PuddleBoatyard yard = new PuddleBoatyard();
        for (int height = 1; height <= times; height++) {
            yard.setTide(0, height);
        }
        return yard;
    }

    private static void undo() {
        edges.at(52, "Returns the number of modifications that can still be undone.", () -> {
            for (int times = 1; times <= 25; times++) {
                edges.is("after " + times, Math.min(times, 8) - 1, modified(times).undo());
            }
        });
        edges.at(52, "Throws `IllegalStateException` if there is none", () -> {
            edges.refuses(Edges.STATE, PuddleBoatyard::new, PuddleBoatyard::undo);
            for (int times = 1; times <= 25; times++) {
                int modifications = times;
                edges.refuses(Edges.STATE, () -> allUndone(modifications), PuddleBoatyard::undo);
            }
            edges.is("one again", 0, redone().undo());
        });
    }

    private static PuddleBoatyard allUndone(int times) {
        PuddleBoatyard yard = modified(times);
        for (int undone = 0; undone < Math.min(times, 8); undone++) {
            yard.undo();
        }
        return yard;
    }

    private static PuddleBoatyard redone() {
        PuddleBoatyard yard = allUndone(9);
        yard.setTide(0, 40);
        return yard;
    }

    private static void undoOfEach() {
        edges.at(52, "Undoes the last modification that can be undone.", () -> {
            for (int i = 0; i < EACH.length; i++) {
                PuddleBoatyard yard = busy();
                EACH[i].on(yard);
                edges.is("changed " + i, false, Yards.seen(busy()).equals(Yards.seen(yard)));
                edges.is("undone " + i, 0, yard.undo());
                edges.same("as before " + i, Yards.everything(busy()), Yards.everything(yard));
            }
        });
    }

    /** Hull 0 built, not symmetric, 1 afloat and leaking, 2 delivered, 3 sunk; nothing can be undone. */
    private static PuddleBoatyard busy() {
        PuddleBoatyard yard = Yards.withAllStates();
        yard.addFrame(0, 3, 4);
        yard.addOrder(2, 5, 50);
        yard.setCargo(1, 9);
        yard.pass(9);
        yard.save();
        yard.restore();
        return yard;
    }

    private static void save() {
        edges.at(53, "Saves the state as a snapshot, which replaces an earlier one.", () -> {
            PuddleBoatyard yard = new PuddleBoatyard();
            for (int hulls = 0; hulls <= 6; hulls++) {
                edges.is("saved", hulls, yard.save());
                yard.pass(99);
                edges.is("restored", hulls, yard.restore());
                edges.is("hulls", hulls, yard.hullCount());
                if (hulls < 6) {
                    yard.beginHull();
                }
                yard.pass(1);
            }
        });
        edges.at(53, "Returns the hour.", () -> {
            edges.is("the first", 0, new PuddleBoatyard().save());
            PuddleBoatyard yard = new PuddleBoatyard();
            yard.pass(99);
            edges.is("later", 99, yard.save());
        });
    }

    private static void restore() {
        edges.at(54, "Throws `IllegalStateException` if there is no snapshot", () -> {
            edges.refuses(Edges.STATE, PuddleBoatyard::new, PuddleBoatyard::restore);
            edges.refuses(Edges.STATE, () -> modified(9), PuddleBoatyard::restore);
            PuddleBoatyard yard = new PuddleBoatyard();
            yard.save();
            edges.is("of a new object", 0, yard.restore());
        });
        edges.at(54, "Restores the snapshot, which is kept.", () -> {
            PuddleBoatyard yard = busy();
            String saved = Yards.seen(yard);
            for (int i = 0; i < EACH.length; i++) {
                EACH[i].on(yard);
                edges.is("changed " + i, false, saved.equals(Yards.seen(yard)));
                edges.is("hour " + i, 10, yard.restore());
                edges.same("as saved " + i, saved, Yards.seen(yard));
            }
            edges.is("twice without a change", 10, yard.restore());
            edges.is("the next id", 2, yard.addOrder(2, 0, 1));
        });
    }

    private static void nothingToUndo() {
        edges.at(54, "Afterwards nothing can be undone.", () -> {
            for (int before = 0; before <= 10; before++) {
                for (int behind = 0; behind <= 10; behind++) {
                    PuddleBoatyard yard = modified(before);
                    yard.save();
                    for (int height = 1; height <= behind; height++) {
                        yard.setTide(1, height);
                    }
                    yard.restore();
                    edges.is("none", "throws IllegalStateException", Check.outcome(yard::undo));
                    edges.is("restored", before, yard.tideAfter(0));
                    for (int left = 1; left <= 9; left++) {
                        yard.setSlip(0, left % 8);
                    }
                    for (int left = 7; left >= 0; left--) {
                        edges.is("new ones only", left, yard.undo());
                    }
                    edges.is("down to the ninth", 1, yard.slipLength(0));
                    edges.is("no more", "throws IllegalStateException", Check.outcome(yard::undo));
                }
            }
        });
    }

    /** Modifications and undo in turn, so that the eight that are kept begin at every place. */
    private static void longRuns() {
        edges.at(52, "Undoes the last modification that can be undone.", () -> {
            for (int forth = 1; forth <= 10; forth++) {
                for (int back = 1; back <= 9; back++) {
                    forthAndBack(forth, back);
                }
            }
        });
    }

    private static void forthAndBack(int forth, int back) {
        PuddleBoatyard yard = new PuddleBoatyard();
        List<Integer> before = new ArrayList<>();
        for (int round = 0; round < 12; round++) {
            for (int step = 0; step < forth; step++) {
                before.add(yard.tideAfter(0));
                if (before.size() > 8) {
                    before.remove(0);
                }
                yard.setTide(0, (7 * round + step) % 51);
            }
            for (int step = 0; step < back; step++) {
                if (before.isEmpty()) {
                    edges.is("none", "throws IllegalStateException", Check.outcome(yard::undo));
                } else {
                    int height = before.remove(before.size() - 1);
                    edges.is("left", before.size(), yard.undo());
                    edges.is("height", height, yard.tideAfter(0));
                }
            }
        }
    }
}
