/** Promises 20 to 23: mirrors. */
public final class MirrorsTest {
    private static final Check check = new Check("MirrorsTest");

    public static void main(String[] args) {
        symmetric();
        reflections();
        stretches();
        check.end();
    }

    private static PuddleBoatyard yardOf(int[][]... hulls) {
        PuddleBoatyard yard = new PuddleBoatyard();
        for (int[][] frames : hulls) {
            int hull = yard.beginHull();
            for (int[] frame : frames) {
                yard.addFrame(hull, frame[0], frame[1]);
            }
        }
        return yard;
    }

    /** Promise 20. */
    private static void symmetric() {
        PuddleBoatyard yard = yardOf(new int[][] {}, new int[][] {{3, 3}, {4, 4}}, new int[][] {{3, 3}, {4, 5}},
                new int[][] {{4, 5}, {5, 4}});
        check.is("20 no frames", true, yard.isSymmetric(0));
        check.is("20 symmetric", true, yard.isSymmetric(1));
        check.is("20 last frame", false, yard.isSymmetric(2));
        check.is("20 sides, not ends", false, yard.isSymmetric(3));
        PuddleBoatyard full = Yards.withHulls(8, 8);
        check.is("20 eight frames", true, full.isSymmetric(0));
        check.is("21 eight frames", true, full.isReflectionOf(0, 1));
        check.fails("20 hull", IndexOutOfBoundsException.class, () -> yard.isSymmetric(4));
        check.fails("20 negative hull", IndexOutOfBoundsException.class, () -> yard.isSymmetric(-1));
    }

    /** Promise 21. */
    private static void reflections() {
        PuddleBoatyard yard = yardOf(new int[][] {{1, 2}, {3, 4}}, new int[][] {{2, 1}, {4, 3}},
                new int[][] {{2, 1}, {4, 3}, {5, 5}}, new int[][] {{4, 3}, {2, 1}}, new int[][] {{2, 1}, {4, 4}},
                new int[][] {});
        check.is("21 reflection", true, yard.isReflectionOf(0, 1));
        check.is("21 and back", true, yard.isReflectionOf(1, 0));
        check.is("21 not itself", false, yard.isReflectionOf(0, 0));
        check.is("21 longer", false, yard.isReflectionOf(0, 2));
        check.is("21 shorter", false, yard.isReflectionOf(2, 0));
        check.is("21 other order", false, yard.isReflectionOf(0, 3));
        check.is("21 one width", false, yard.isReflectionOf(0, 4));
        PuddleBoatyard first = yardOf(new int[][] {{1, 2}, {3, 4}}, new int[][] {{2, 2}, {4, 3}});
        check.is("21 one width of the first frame", false, first.isReflectionOf(0, 1));
        check.is("21 no frames", true, yard.isReflectionOf(5, 5));
        check.is("21 no frames and some", false, yard.isReflectionOf(5, 0));
        check.fails("21 hull", IndexOutOfBoundsException.class, () -> yard.isReflectionOf(6, 0));
        check.fails("21 other", IndexOutOfBoundsException.class, () -> yard.isReflectionOf(0, 6));
        check.fails("21 negative other", IndexOutOfBoundsException.class, () -> yard.isReflectionOf(0, -1));
    }

    /** Promises 22 and 23. */
    private static void stretches() {
        PuddleBoatyard yard = yardOf(
                new int[][] {{1, 2}, {3, 4}, {5, 6}, {7, 8}, {3, 4}},
                new int[][] {{6, 5}, {8, 7}, {4, 3}, {6, 5}, {1, 1}, {2, 1}, {4, 3}},
                new int[][] {},
                new int[][] {{5, 5}, {5, 5}, {5, 5}, {5, 5}, {5, 5}, {5, 5}, {5, 5}, {5, 5}},
                new int[][] {{5, 5}, {5, 5}, {9, 9}, {5, 5}, {5, 5}, {5, 5}},
                new int[][] {{5, 6}});
        stretchIs(yard, 0, 1, 3);
        stretchIs(yard, 1, 0, 3);
        stretchIs(yard, 0, 0, 0);
        stretchIs(yard, 0, 2, 0);
        stretchIs(yard, 2, 2, 0);
        stretchIs(yard, 3, 3, 8);
        stretchIs(yard, 3, 4, 3);
        stretchIs(yard, 4, 3, 3);
        stretchIs(yard, 4, 4, 6);
        stretchIs(yard, 5, 1, 1);
        stretchIs(yard, 5, 0, 0);
        stretchIs(yard, 0, 6, "throws IndexOutOfBoundsException");
        stretchIs(yard, 6, 0, "throws IndexOutOfBoundsException");
        stretchIs(yard, -1, 0, "throws IndexOutOfBoundsException");
        stretchIs(yard, 0, -1, "throws IndexOutOfBoundsException");
        // The table is used again: what a longer pair left in it must not count for a shorter one.
        stretchIs(yard, 3, 3, 8);
        stretchIs(yard, 0, 1, 3);
    }

    private static void stretchIs(PuddleBoatyard yard, int hull, int other, Object want) {
        check.is("22 " + hull + ", " + other, want, Check.outcome(() -> yard.commonStretch(hull, other)));
        check.is("23 " + hull + ", " + other, want, Check.outcome(() -> yard.commonStretchByTrying(hull, other)));
    }
}
