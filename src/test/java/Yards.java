/** Boatyards that are ready for a test, and what can be seen of one. */
final class Yards {
    private Yards() {
    }

    /** A boatyard whose hulls have these numbers of frames, each frame 5|5. */
    static PuddleBoatyard withHulls(int... frames) {
        PuddleBoatyard yard = new PuddleBoatyard();
        for (int count : frames) {
            addHull(yard, count);
        }
        return yard;
    }

    static int addHull(PuddleBoatyard yard, int frames) {
        int hull = yard.beginHull();
        for (int frame = 0; frame < frames; frame++) {
            yard.addFrame(hull, 5, 5);
        }
        return hull;
    }

    /** A boatyard with hull 0 built of two frames, 1 afloat, 2 delivered and 3 sunk. */
    static PuddleBoatyard withAllStates() {
        PuddleBoatyard yard = withHulls(2, 2, 2, 2);
        for (int tide = 0; tide < 12; tide++) {
            yard.setTide(tide, 50);
        }
        for (int hull = 1; hull < 4; hull++) {
            yard.launch(hull);
        }
        yard.addOrder(2, 0, 1);
        yard.deliver(0, 2);
        yard.setCargo(3, 999);
        yard.pass(1);
        return yard;
    }

    static int typeAll(PuddleBoatyard yard, String text) {
        int length = 0;
        for (int i = 0; i < text.length(); i++) {
            length = yard.type(text.charAt(i));
        }
        return length;
    }

    static int run(PuddleBoatyard yard, String text) {
        typeAll(yard, text);
        return yard.execute();
    }

    static String line(PuddleBoatyard yard, int hull) {
        int length = yard.writeHull(hull);
        StringBuilder text = new StringBuilder();
        for (int i = 0; i < length; i++) {
            text.append(yard.lineAt(i));
        }
        return text.toString();
    }

    /** All that undo and restore bring back, as far as calls that change nothing show it. */
    static String seen(PuddleBoatyard yard) {
        StringBuilder text = new StringBuilder();
        text.append("hour ").append(yard.hour()).append(" paid ").append(yard.paidCoins());
        for (int hull = 0; hull < yard.hullCount(); hull++) {
            text.append("\nhull ").append(yard.stateOf(hull));
            text.append(' ').append(yard.weightOf(hull)).append(' ').append(yard.waterIn(hull));
            for (int frame = 0; frame < yard.frameCount(hull); frame++) {
                text.append(' ').append(yard.widthOf(hull, frame, true));
                text.append('|').append(yard.widthOf(hull, frame, false));
                if (frame + 1 < yard.frameCount(hull)) {
                    text.append('~').append(yard.caulkingOf(hull, frame));
                }
            }
        }
        text.append("\ntides");
        for (int hours = 0; hours < 12; hours++) {
            text.append(' ').append(yard.tideAfter(hours));
        }
        text.append("\nslips");
        for (int slip = 0; slip < 4; slip++) {
            text.append(' ').append(yard.slipLength(slip));
        }
        text.append("\norders");
        for (int position = 0; position < yard.orderCount(); position++) {
            int order = yard.orderAt(position);
            text.append(' ').append(order).append(':').append(yard.coinsFor(order));
        }
        return text.toString();
    }

    /** What undo and restore leave alone, and no modification shows. */
    static String remembered(PuddleBoatyard yard) {
        return Check.outcome(yard::refusalReason) + ", " + Check.outcome(yard::errorPosition) + ", "
                + Check.outcome(yard::failedCommand);
    }
}
