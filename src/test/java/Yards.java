/** Boatyards that are ready for a test, and what can be seen of one. */
final class Yards {
    private Yards() {
    }

    /** A boatyard whose hulls have these numbers of frames, each frame 5|5. */
    static PuddleBoatyard withHulls(int... frames) {
        PuddleBoatyard yard = new PuddleBoatyard();
        for (int count : frames) {
            addHull(yard, count);
        }
        return yard;
    }

    static int addHull(PuddleBoatyard yard, int frames) {
        int hull = yard.beginHull();
        for (int frame = 0; frame < frames; frame++) {
            yard.addFrame(hull, 5, 5);
        }
        return hull;
    }

    /** A boatyard with hull 0 built of two frames, 1 afloat, 2 delivered and 3 sunk. */
    static PuddleBoatyard withAllStates() {
        PuddleBoatyard yard = withHulls(2, 2, 2, 2);
        for (int tide = 0; tide < 12; tide++) {
            yard.setTide(tide, 50);
        }
        for (int hull = 1; hull < 4; hull++) {
            yard.launch(hull);
        }
        yard.addOrder(2, 0, 1);
        yard.deliver(0, 2);
        yard.setCargo(3, 999);
        yard.pass(1);
        return yard;
    }

    static PuddleBoatyard sixAfloat() {
        PuddleBoatyard yard = withHulls(2, 2, 2, 2, 2, 2);
        yard.setTide(0, 50);
        for (int hull = 0; hull < 6; hull++) {
            yard.launch(hull);
        }
        return yard;
    }

    /**
     * A boatyard in which every part holds something: hull 0 built of three frames, 1 afloat and leaking, 2
     * delivered, 3 sunk, 4 built of eight frames and 5 of one, five orders, a snapshot, more modifications than
     * undo takes back, half a program, a line, a refusal, an error position and a failed command.
     */
    static PuddleBoatyard rich() {
        PuddleBoatyard yard = withAllStates();
        addHull(yard, 8);
        addHull(yard, 1);
        yard.addFrame(0, 3, 4);
        for (int tide = 0; tide < 12; tide++) {
            yard.setTide(tide, 3 * tide);
        }
        yard.addOrder(2, 5, 50);
        yard.addOrder(3, 5, 60);
        yard.addOrder(8, 20, 70);
        yard.addOrder(2, 999, 999);
        yard.addOrder(4, 0, 1);
        yard.pass(9);
        Check.outcome(() -> yard.launch(5));
        Check.outcome(() -> run(yard, "hull;x"));
        Check.outcome(() -> run(yard, "mirror 0;mirror 9"));
        yard.writeHull(1);
        yard.save();
        yard.setSlip(1, 3);
        yard.setCargo(0, 7);
        yard.setSlip(2, 5);
        yard.setTide(4, 1);
        yard.pass(2);
        yard.pump(1, 1);
        yard.mirror(0);
        yard.setCargo(1, 2);
        yard.caulk(1, 0);
        yard.pass(4);
        typeAll(yard, "tide 3 ");
        return yard;
    }

    static int typeAll(PuddleBoatyard yard, String text) {
        int length = 0;
        for (int i = 0; i < text.length(); i++) {
            length = yard.type(text.charAt(i));
        }
        return length;
    }

    static int run(PuddleBoatyard yard, String text) {
        typeAll(yard, text);
        return yard.execute();
    }

    static String line(PuddleBoatyard yard, int hull) {
        int length = yard.writeHull(hull);
        StringBuilder text = new StringBuilder();
        for (int i = 0; i < length; i++) {
            text.append(yard.lineAt(i));
        }
        return text.toString();
    }

    /** All that undo and restore bring back, as far as calls that change nothing show it. */
    static String seen(PuddleBoatyard yard) {
        StringBuilder text = new StringBuilder();
        text.append("hour ").append(yard.hour()).append(" paid ").append(yard.paidCoins());
        for (int hull = 0; hull < yard.hullCount(); hull++) {
            text.append("\nhull ").append(yard.stateOf(hull));
            text.append(' ').append(yard.weightOf(hull)).append(' ').append(yard.waterIn(hull));
            for (int frame = 0; frame < yard.frameCount(hull); frame++) {
                text.append(' ').append(yard.widthOf(hull, frame, true));
                text.append('|').append(yard.widthOf(hull, frame, false));
                if (frame + 1 < yard.frameCount(hull)) {
                    text.append('~').append(yard.caulkingOf(hull, frame));
                }
            }
        }
        text.append("\ntides");
        for (int hours = 0; hours < 12; hours++) {
            text.append(' ').append(yard.tideAfter(hours));
        }
        text.append("\nslips");
        for (int slip = 0; slip < 4; slip++) {
            text.append(' ').append(yard.slipLength(slip));
        }
        text.append("\norders");
        for (int position = 0; position < yard.orderCount(); position++) {
            int order = yard.orderAt(position);
            text.append(' ').append(order).append(':').append(yard.coinsFor(order));
        }
        return text.toString();
    }

    /**
     * All that calls can bring to light: what is seen and remembered, the line, the id that is given next, the
     * earlier modifications, the buffer and the snapshot. The boatyard is used up by it.
     */
    static String everything(PuddleBoatyard yard) {
        StringBuilder text = new StringBuilder(seen(yard));
        text.append("\nrefusal:").append(Check.outcome(yard::refusalReason));
        text.append("\nerror:").append(Check.outcome(yard::errorPosition));
        text.append("\nfailed:").append(Check.outcome(yard::failedCommand));
        text.append("\nline:").append(wholeLine(yard));
        text.append("\nnext order ").append(Check.outcome(() -> yard.addOrder(2, 0, 1)));
        for (int undone = 0; undone < 10; undone++) {
            text.append("\nundo ").append(Check.outcome(yard::undo)).append('\n').append(seen(yard));
        }
        text.append("\nbuffer ").append(Check.outcome(() -> yard.type('7')));
        text.append(' ').append(Check.outcome(yard::execute)).append('\n').append(seen(yard));
        text.append("\nsnapshot ").append(Check.outcome(yard::restore)).append('\n').append(seen(yard));
        return text.append("\nits next order ").append(Check.outcome(() -> yard.addOrder(2, 0, 1))).toString();
    }

    private static String wholeLine(PuddleBoatyard yard) {
        StringBuilder text = new StringBuilder();
        for (int index = 0; index < 70; index++) {
            int at = index;
            text.append(Check.outcome(() -> yard.lineAt(at)).toString().replace("throws IndexOutOfBoundsException", ""));
        }
        return text.toString();
    }

    /** What undo and restore leave alone, and no modification shows. */
    static String remembered(PuddleBoatyard yard) {
        return Check.outcome(yard::refusalReason) + ", " + Check.outcome(yard::errorPosition) + ", "
                + Check.outcome(yard::failedCommand);
    }
}
