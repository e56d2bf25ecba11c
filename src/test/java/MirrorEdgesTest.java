/** The edges that promises 20 to 23 name: mirrors. */
public final class MirrorEdgesTest {
    private static final String NEITHER = Edges.NO_HULL + ", for either";
    private static final Edges edges = new Edges("MirrorEdgesTest", 20, 23);

    private interface PairCall {
        Object on(PuddleBoatyard yard, int hull, int other);
    }

    public static void main(String[] args) {
        isSymmetric();
        isReflectionOf();
        stretches(22, PuddleBoatyard::commonStretch);
        stretches(23, PuddleBoatyard::commonStretchByTrying);
        bothWays();
        edges.end();
    }

    private static PuddleBoatyard sixBuilt() {
        return Yards.withHulls(2, 2, 2, 2, 2, 2);
    }

    private static void isSymmetric() {
        edges.hulls(20, Edges.NO_HULL, MirrorEdgesTest::sixBuilt, PuddleBoatyard::isSymmetric);
        edges.at(20, "Returns whether it is; true without frames.", () -> {
            edges.is("no frames", true, Yards.withHulls(0).isSymmetric(0));
            PuddleBoatyard yard = Yards.withHulls(0);
            yard.addFrame(0, 1, 30);
            edges.is("one frame", false, yard.isSymmetric(0));
            for (int hull = 0; hull < 4; hull++) {
                edges.is("in every state", true, Yards.withAllStates().isSymmetric(hull));
            }
        });
    }

    private static void either(int promise, PairCall call) {
        edges.hulls(promise, NEITHER, MirrorEdgesTest::sixBuilt, (yard, hull) -> call.on(yard, hull, 0));
        edges.hulls(promise, NEITHER, MirrorEdgesTest::sixBuilt, (yard, other) -> call.on(yard, 0, other));
        edges.hulls(promise, NEITHER, MirrorEdgesTest::sixBuilt, (yard, both) -> call.on(yard, both, both));
    }

    private static void isReflectionOf() {
        either(21, PuddleBoatyard::isReflectionOf);
        edges.at(21, "- `other`: the other hull, possibly the same", () -> {
            edges.is("itself, no frames", true, Yards.withHulls(0).isReflectionOf(0, 0));
            edges.is("itself, symmetric", true, Yards.withHulls(8).isReflectionOf(0, 0));
            PuddleBoatyard yard = Yards.withHulls(8);
            yard.beginHull();
            yard.addFrame(1, 2, 1);
            edges.is("itself, not symmetric", false, yard.isReflectionOf(1, 1));
        });
        edges.at(21, "Returns whether it has the same number of frames, and each one is like that of the reflection.", () -> {
            for (int frames = 0; frames <= 8; frames++) {
                for (int others = 0; others <= 8; others++) {
                    edges.is(frames + " and " + others, frames == others,
                            Yards.withHulls(frames, others).isReflectionOf(0, 1));
                }
            }
            for (int frame = 0; frame < 8; frame++) {
                edges.is("but for frame " + frame, false, crooked(frame).isReflectionOf(0, 1));
                edges.is("and back " + frame, false, crooked(frame).isReflectionOf(1, 0));
            }
            edges.is("each one", true, crooked(8).isReflectionOf(0, 1));
        });
    }

    /** Two hulls of eight frames each, of which the second is the reflection of the first but for one frame. */
    private static PuddleBoatyard crooked(int crookedFrame) {
        PuddleBoatyard yard = Yards.withHulls(0, 0);
        for (int frame = 0; frame < 8; frame++) {
            yard.addFrame(0, frame + 1, 30 - frame);
            yard.addFrame(1, 30 - frame, frame == crookedFrame ? frame + 2 : frame + 1);
        }
        return yard;
    }

    private static void stretches(int promise, PairCall call) {
        either(promise, call);
        edges.at(promise, "- `other`: the other hull, possibly the same", () -> {
            edges.is("itself, no frames", 0, call.on(Yards.withHulls(0), 0, 0));
            edges.is("itself, one frame", 1, call.on(Yards.withHulls(1), 0, 0));
            edges.is("itself, eight frames", 8, call.on(Yards.withHulls(8), 0, 0));
            PuddleBoatyard yard = Yards.withHulls(0);
            yard.addFrame(0, 1, 2);
            edges.is("itself, not symmetric", 0, call.on(yard, 0, 0));
            yard.addFrame(0, 2, 1);
            edges.is("each is like the other one", 1, call.on(yard, 0, 0));
        });
        edges.at(promise, "Returns the number of frames.", () -> {
            for (int frames = 0; frames <= 8; frames++) {
                for (int others = 0; others <= 8; others++) {
                    edges.is(frames + " and " + others, Math.min(frames, others),
                            call.on(Yards.withHulls(frames, others), 0, 1));
                }
            }
            for (int frame = 0; frame < 8; frame++) {
                edges.is("but for frame " + frame, Math.max(frame, 7 - frame), call.on(crooked(frame), 0, 1));
            }
            edges.is("all eight", 8, call.on(crooked(8), 0, 1));
        });
    }

    /** Each pair of places at which a stretch of each length can lie in two hulls of eight frames. */
    private static void bothWays() {
        edges.at(23, "Returns the same number as commonStretch, by trying all pairs of frames with which the stretches can "
                + "begin.", () -> {
            for (int length = 0; length <= 8; length++) {
                for (int from = 0; from + length <= 8; from++) {
                    for (int otherFrom = 0; otherFrom + length <= 8; otherFrom++) {
                        PuddleBoatyard yard = common(length, from, otherFrom);
                        String what = length + " from " + from + " and " + otherFrom;
                        edges.is(what + " by table", length, yard.commonStretch(0, 1));
                        edges.is(what + " by trying", length, yard.commonStretchByTrying(0, 1));
                        edges.is(what + " by table, and back", length, yard.commonStretch(1, 0));
                    }
                }
            }
        });
    }

    private static PuddleBoatyard common(int length, int from, int otherFrom) {
        PuddleBoatyard yard = Yards.withHulls(0, 0);
        for (int frame = 0; frame < 8; frame++) {
            boolean common = frame >= from && frame < from + length;
            yard.addFrame(0, common ? 10 + frame - from : 1, 3);
            boolean otherCommon = frame >= otherFrom && frame < otherFrom + length;
            yard.addFrame(1, 3, otherCommon ? 10 + frame - otherFrom : 2);
        }
        return yard;
    }
}
