import java.util.NoSuchElementException;

/**
 * A boatyard for puddles turned upside down: it keeps hulls, tides, slips and orders.
 *
 * <p>Every modification, called directly or as a command of a program, goes one way: first
 * {@link Yard#faultOf} tells what stands against it, and only then {@link Yard#perform} does it. So
 * a call that throws has changed nothing, and a program needs no catch to learn that a command fails.
 */
public final class PuddleBoatyard {
    public static final int BUILT = 0, AFLOAT = 1, DELIVERED = 2, SUNK = 3;
    public static final int TOO_SHORT = 1, TOO_HEAVY = 2, LOW_TIDE = 3;

    private static final int MOST_HULLS = 6;
    private static final int MOST_FRAMES = 8;
    private static final int LEAST_FRAMES_TO_FLOAT = 2;
    private static final int WIDEST_FRAME = 30;
    private static final int TIGHT_SEAM = 9;
    private static final int MOST_UNITS = 999;
    private static final int DEEPEST_DRAUGHT = 40;
    private static final int NO_DRAUGHT = -1;
    private static final int TIDES = 12;
    private static final int HIGHEST_TIDE = 50;
    private static final int HOURS_TO_WEAR = 6;
    private static final int MOST_HOURS_TO_PASS = 99;
    private static final int MOST_HOURS_TO_SINK = 500;
    private static final int SLIPS = 4;
    private static final int MOST_ORDERS = 6;
    private static final int MOST_UNDOABLE = 8;
    private static final int MOST_CHARACTERS = 60;

    /** What can stand against a call; each but FINE is an exception of its own. */
    private static final int FINE = 0, NO_INDEX = 1, BAD_NUMBER = 2, WRONG_STATE = 3, REFUSED = 4, NOT_FOUND = 5;

    /** The modifications; those before SLIP are the commands of programs. */
    private static final int HULL = 0, FRAME = 1, MIRROR = 2, CARGO = 3, LAUNCH = 4, CAULK = 5, PUMP = 6, HOURS = 7,
            TIDE = 8, ORDER = 9, DELIVER = 10, SLIP = 11;

    private final Yard yard = new Yard();
    private final History history = new History();
    private final Yard snapshot = new Yard();
    private boolean hasSnapshot;

    private final Program program = new Program();
    private final Yard beforeProgram = new Yard();
    private final StringBuilder line = new StringBuilder();
    private int lastRefusal;
    private int lastErrorPosition = -1;
    private int lastFailedCommand = -1;

    private final Stretches stretches = new Stretches();
    private final SlipPlan slipPlan = new SlipPlan();
    private final Hull trialHull = new Hull();

    public PuddleBoatyard() {
    }

    // ---- hulls

    public int beginHull() throws IllegalStateException {
        return modify(HULL, 0, 0, 0);
    }

    public int addFrame(int hull, int left, int right)
            throws IndexOutOfBoundsException, IllegalArgumentException, IllegalStateException {
        return modify(FRAME, hull, left, right);
    }

    public int mirror(int hull) throws IndexOutOfBoundsException, IllegalStateException {
        return modify(MIRROR, hull, 0, 0);
    }

    public int setCargo(int hull, int cargo)
            throws IndexOutOfBoundsException, IllegalArgumentException, IllegalStateException {
        return modify(CARGO, hull, cargo, 0);
    }

    public int launch(int hull)
            throws IndexOutOfBoundsException, IllegalStateException, UnsupportedOperationException {
        return modify(LAUNCH, hull, 0, 0);
    }

    public int caulk(int hull, int seam) throws IndexOutOfBoundsException, IllegalStateException {
        return modify(CAULK, hull, seam, 0);
    }

    public int pump(int hull, int units)
            throws IndexOutOfBoundsException, IllegalArgumentException, IllegalStateException {
        return modify(PUMP, hull, units, 0);
    }

    public int hullCount() {
        return yard.begun;
    }

    public int stateOf(int hull) throws IndexOutOfBoundsException {
        return knownHull(hull).state;
    }

    public int frameCount(int hull) throws IndexOutOfBoundsException {
        return knownHull(hull).frames;
    }

    public int widthOf(int hull, int frame, boolean isLeft) throws IndexOutOfBoundsException {
        Hull known = knownHull(hull);
        if (frame < 0 || frame >= known.frames) {
            throw new IndexOutOfBoundsException("no such frame");
        }
        return isLeft ? known.left[frame] : known.right[frame];
    }

    public int caulkingOf(int hull, int seam) throws IndexOutOfBoundsException {
        Hull known = knownHull(hull);
        if (!known.hasSeam(seam)) {
            throw new IndexOutOfBoundsException("no such seam");
        }
        return known.caulking[seam];
    }

    public int waterIn(int hull) throws IndexOutOfBoundsException {
        return knownHull(hull).water;
    }

    public int weightOf(int hull) throws IndexOutOfBoundsException {
        return knownHull(hull).weight();
    }

    public int draughtOf(int hull) throws IndexOutOfBoundsException, NoSuchElementException {
        return knownDraught(knownHull(hull).triedDraught());
    }

    public int draughtByHalving(int hull) throws IndexOutOfBoundsException, NoSuchElementException {
        return knownDraught(knownHull(hull).halvedDraught());
    }

    public int heelOf(int hull) throws IndexOutOfBoundsException {
        return knownHull(hull).heel();
    }

    public int hullAtRank(int rank) throws NoSuchElementException {
        for (int hull = 0; hull < yard.begun; hull++) {
            if (yard.rankByWeight(hull) == rank) {
                return hull;
            }
        }
        throw new NoSuchElementException("no such rank");
    }

    // ---- mirrors

    public boolean isSymmetric(int hull) throws IndexOutOfBoundsException {
        Hull known = knownHull(hull);
        return known.equalsReflectionOf(known);
    }

    public boolean isReflectionOf(int hull, int other) throws IndexOutOfBoundsException {
        return knownHull(hull).equalsReflectionOf(knownHull(other));
    }

    public int commonStretch(int hull, int other) throws IndexOutOfBoundsException {
        return stretches.longestByTable(knownHull(hull), knownHull(other));
    }

    public int commonStretchByTrying(int hull, int other) throws IndexOutOfBoundsException {
        return stretches.longestByTrying(knownHull(hull), knownHull(other));
    }

    // ---- tides, hours and slips

    public int setTide(int tide, int height) throws IllegalArgumentException {
        return modify(TIDE, tide, height, 0);
    }

    public int pass(int hours) throws IllegalArgumentException {
        return modify(HOURS, hours, 0, 0);
    }

    public int hour() {
        return yard.now;
    }

    public int tideAfter(int hours) throws IllegalArgumentException {
        if (!isFromTo(hours, 0, MOST_UNITS)) {
            throw new IllegalArgumentException("hours out of range");
        }
        return yard.tideIn(hours);
    }

    public int hoursToLaunch(int hull)
            throws IndexOutOfBoundsException, IllegalStateException, NoSuchElementException {
        int draught = draughtForLaunch(hull);
        for (int hours = 0; hours < TIDES; hours++) {
            if (yard.tideIn(hours) >= draught) {
                return hours;
            }
        }
        throw new NoSuchElementException("no tide is high enough");
    }

    public int hoursToLaunchByTides(int hull)
            throws IndexOutOfBoundsException, IllegalStateException, NoSuchElementException {
        int draught = draughtForLaunch(hull);
        int fewest = TIDES;
        for (int tide = 0; tide < TIDES; tide++) {
            if (yard.tides[tide] >= draught) {
                fewest = Math.min(fewest, Math.floorMod(tide - yard.now, TIDES));
            }
        }
        if (fewest == TIDES) {
            throw new NoSuchElementException("no tide is high enough");
        }
        return fewest;
    }

    public int hoursToSinking(int hull)
            throws IndexOutOfBoundsException, IllegalStateException, NoSuchElementException {
        Hull known = knownHull(hull);
        if (known.state != AFLOAT) {
            throw new IllegalStateException("the hull is not afloat");
        }
        trialHull.become(known);
        for (int hours = 1; hours <= MOST_HOURS_TO_SINK; hours++) {
            trialHull.leak(yard.now + hours);
            if (!trialHull.floats()) {
                return hours;
            }
        }
        throw new NoSuchElementException("it does not sink in this time");
    }

    public int setSlip(int slip, int length) throws IllegalArgumentException {
        return modify(SLIP, slip, length, 0);
    }

    public int slipLength(int slip) throws IllegalArgumentException {
        if (!isFromTo(slip, 0, SLIPS - 1)) {
            throw new IllegalArgumentException("no such slip");
        }
        return yard.slips[slip];
    }

    public int mostOnSlips() {
        return slipPlan.mostByMoving(yard);
    }

    public int mostOnSlipsByLengths() {
        return slipPlan.mostFromShortest(yard);
    }

    public int bestUses() {
        return slipPlan.countBestUses(yard);
    }

    // ---- orders and accounts

    public int addOrder(int frames, int hour, int coins) throws IllegalArgumentException, IllegalStateException {
        return modify(ORDER, frames, hour, coins);
    }

    public int deliver(int order, int hull)
            throws NoSuchElementException, IndexOutOfBoundsException, IllegalStateException {
        return modify(DELIVER, order, hull, 0);
    }

    public int orderCount() {
        return yard.orders.count;
    }

    public int orderAt(int position) throws IndexOutOfBoundsException {
        if (position < 0 || position >= yard.orders.count) {
            throw new IndexOutOfBoundsException("no such position");
        }
        return yard.orders.ids[position];
    }

    public int coinsFor(int order) throws NoSuchElementException {
        int position = yard.orders.positionOf(order);
        if (position < 0) {
            throw new NoSuchElementException("no such order");
        }
        return yard.orders.coinsDue(position, yard.now);
    }

    public int bestDelivery() {
        return yard.orders.bestSum(yard.hulls, yard.begun, yard.now);
    }

    public long paidCoins() {
        return yard.paid;
    }

    public int hullsIn(int state) throws IllegalArgumentException {
        if (!isFromTo(state, BUILT, SUNK)) {
            throw new IllegalArgumentException("no such state");
        }
        int count = 0;
        for (int hull = 0; hull < yard.begun; hull++) {
            if (yard.hulls[hull].state == state) {
                count++;
            }
        }
        return count;
    }

    public int refusalReason() throws NoSuchElementException {
        if (lastRefusal == 0) {
            throw new NoSuchElementException("no launch was refused");
        }
        return lastRefusal;
    }

    public double meanWeight() throws ArithmeticException {
        if (yard.begun == 0) {
            throw new ArithmeticException("there are no hulls");
        }
        int sum = 0;
        for (int hull = 0; hull < yard.begun; hull++) {
            sum += yard.hulls[hull].weight();
        }
        return (double) sum / (double) yard.begun;
    }

    // ---- line and programs

    public int writeHull(int hull) throws IndexOutOfBoundsException {
        Hull known = knownHull(hull);
        line.setLength(0);
        line.append(hull);
        line.append(stateLetter(known.state));
        for (int frame = 0; frame < known.frames; frame++) {
            line.append(' ');
            line.append(known.left[frame]);
            line.append('|');
            line.append(known.right[frame]);
            if (known.hasSeam(frame)) {
                line.append('~');
                line.append(known.caulking[frame]);
            }
        }
        return line.length();
    }

    public char lineAt(int index) throws IndexOutOfBoundsException {
        if (index < 0 || index >= line.length()) {
            throw new IndexOutOfBoundsException("no such character");
        }
        return line.charAt(index);
    }

    public int type(char character) throws IllegalArgumentException, IllegalStateException {
        if (character < 32 || character > 126) {
            throw new IllegalArgumentException("no such character can be typed");
        }
        if (program.length >= MOST_CHARACTERS) {
            throw new IllegalStateException("the buffer is full");
        }
        return program.append(character);
    }

    public int execute() throws IllegalArgumentException, IllegalStateException {
        boolean wellFormed = program.read();
        program.length = 0;
        if (!wellFormed) {
            lastErrorPosition = program.error;
            throw new IllegalArgumentException("the program is malformed");
        }
        int failed = runProgram();
        if (failed >= 0) {
            lastFailedCommand = failed;
            throw new IllegalStateException("a command fails");
        }
        return program.commands;
    }

    public int errorPosition() throws NoSuchElementException {
        if (lastErrorPosition < 0) {
            throw new NoSuchElementException("no program was malformed");
        }
        return lastErrorPosition;
    }

    public int failedCommand() throws NoSuchElementException {
        if (lastFailedCommand < 0) {
            throw new NoSuchElementException("no command failed");
        }
        return lastFailedCommand;
    }

    // ---- undo and snapshots

    public int undo() throws IllegalStateException {
        if (history.size == 0) {
            throw new IllegalStateException("nothing can be undone");
        }
        history.takeBack(yard);
        return history.size;
    }

    public int save() {
        snapshot.become(yard);
        hasSnapshot = true;
        return yard.now;
    }

    public int restore() throws IllegalStateException {
        if (!hasSnapshot) {
            throw new IllegalStateException("there is no snapshot");
        }
        yard.become(snapshot);
        history.size = 0;
        return yard.now;
    }

    // ---- what the calls above share

    private int modify(int kind, int first, int second, int third) {
        int fault = yard.faultOf(kind, first, second, third);
        storeIfRefusal(fault, first);
        throwFor(fault);
        history.keep(yard);
        return yard.perform(kind, first, second, third);
    }

    /** A refused launch throws like other failing calls, but it does not go without a trace. */
    private void storeIfRefusal(int fault, int hull) {
        if (fault == REFUSED) {
            lastRefusal = yard.refusalOf(hull);
        }
    }

    /** Answers the index of the command that fails, or -1 if all are executed. */
    private int runProgram() {
        beforeProgram.become(yard);
        for (int command = 0; command < program.commands; command++) {
            int kind = program.kinds[command];
            int first = program.numberOf(command, 0);
            int second = program.numberOf(command, 1);
            int third = program.numberOf(command, 2);
            int fault = yard.faultOf(kind, first, second, third);
            if (fault != FINE) {
                storeIfRefusal(fault, first);
                yard.become(beforeProgram);
                return command;
            }
            yard.perform(kind, first, second, third);
        }
        history.keep(beforeProgram);
        return -1;
    }

    private static void throwFor(int fault) {
        switch (fault) {
            case NO_INDEX:
                throw new IndexOutOfBoundsException("no such hull or seam");
            case BAD_NUMBER:
                throw new IllegalArgumentException("a number is out of range");
            case WRONG_STATE:
                throw new IllegalStateException("the boatyard or the hull does not allow it now");
            case REFUSED:
                throw new UnsupportedOperationException("the launch is refused");
            case NOT_FOUND:
                throw new NoSuchElementException("no such order");
            default:
                break;
        }
    }

    private Hull knownHull(int hull) {
        if (!yard.hasHull(hull)) {
            throw new IndexOutOfBoundsException("no such hull");
        }
        return yard.hulls[hull];
    }

    private static int knownDraught(int draught) {
        if (draught == NO_DRAUGHT) {
            throw new NoSuchElementException("the hull cannot float");
        }
        return draught;
    }

    private int draughtForLaunch(int hull) {
        Hull known = knownHull(hull);
        if (known.state != BUILT) {
            throw new IllegalStateException("the hull is not built");
        }
        if (known.frames < LEAST_FRAMES_TO_FLOAT) {
            throw new NoSuchElementException("the hull is too short");
        }
        return knownDraught(known.triedDraught());
    }

    private static boolean isFromTo(int number, int least, int greatest) {
        return number >= least && number <= greatest;
    }

    private static char stateLetter(int state) {
        switch (state) {
            case BUILT:
                return 'b';
            case AFLOAT:
                return 'a';
            case DELIVERED:
                return 'd';
            default:
                return 's';
        }
    }

    /** One hull: its frames, its seams and what it carries. */
    private static final class Hull {
        final int[] left = new int[MOST_FRAMES];
        final int[] right = new int[MOST_FRAMES];
        final int[] caulking = new int[MOST_FRAMES];
        int frames;
        int state = BUILT;
        int cargo;
        int water;

        void become(Hull other) {
            System.arraycopy(other.left, 0, left, 0, MOST_FRAMES);
            System.arraycopy(other.right, 0, right, 0, MOST_FRAMES);
            System.arraycopy(other.caulking, 0, caulking, 0, MOST_FRAMES);
            frames = other.frames;
            state = other.state;
            cargo = other.cargo;
            water = other.water;
        }

        boolean hasSeam(int seam) {
            return seam >= 0 && seam < frames - 1;
        }

        int weight() {
            int sum = cargo + water;
            for (int frame = 0; frame < frames; frame++) {
                sum += left[frame] + right[frame];
            }
            return sum;
        }

        int heel() {
            int sum = 0;
            for (int frame = 0; frame < frames; frame++) {
                sum += left[frame] - right[frame];
            }
            return sum;
        }

        int widthsAtSeams() {
            int sum = 0;
            for (int seam = 0; seam < frames - 1; seam++) {
                sum += left[seam] + right[seam] + left[seam + 1] + right[seam + 1];
            }
            return sum;
        }

        static int buoyancy(int widthsAtSeams, int draught) {
            return widthsAtSeams * draught / 2;
        }

        int triedDraught() {
            int widths = widthsAtSeams();
            int weight = weight();
            for (int draught = 0; draught <= DEEPEST_DRAUGHT; draught++) {
                if (buoyancy(widths, draught) >= weight) {
                    return draught;
                }
            }
            return NO_DRAUGHT;
        }

        int halvedDraught() {
            int widths = widthsAtSeams();
            int weight = weight();
            int least = 0;
            // One draught beyond the deepest stands for a hull that cannot float.
            int greatest = DEEPEST_DRAUGHT + 1;
            for (int halvings = 0; halvings <= DEEPEST_DRAUGHT && least < greatest; halvings++) {
                int middle = (least + greatest) / 2;
                if (buoyancy(widths, middle) >= weight) {
                    greatest = middle;
                } else {
                    least = middle + 1;
                }
            }
            return least <= DEEPEST_DRAUGHT ? least : NO_DRAUGHT;
        }

        /** Buoyancy grows with the draught, so the deepest one decides. */
        boolean floats() {
            return buoyancy(widthsAtSeams(), DEEPEST_DRAUGHT) >= weight();
        }

        /** What an hour does to a hull that is afloat, before it may sink. */
        void leak(int hour) {
            for (int seam = 0; seam < frames - 1; seam++) {
                water += TIGHT_SEAM - caulking[seam];
                if (hour % HOURS_TO_WEAR == 0 && caulking[seam] > 0) {
                    caulking[seam]--;
                }
            }
        }

        int addFrameAtStern(int leftWidth, int rightWidth) {
            left[frames] = leftWidth;
            right[frames] = rightWidth;
            caulking[frames] = TIGHT_SEAM;
            frames++;
            return frames;
        }

        int exchangeSides() {
            int changed = 0;
            for (int frame = 0; frame < frames; frame++) {
                int width = left[frame];
                left[frame] = right[frame];
                right[frame] = width;
                if (left[frame] != right[frame]) {
                    changed++;
                }
            }
            return changed;
        }

        boolean frameEqualsReflected(int frame, Hull other, int otherFrame) {
            return left[frame] == other.right[otherFrame] && right[frame] == other.left[otherFrame];
        }

        boolean equalsReflectionOf(Hull other) {
            if (frames != other.frames) {
                return false;
            }
            for (int frame = 0; frame < frames; frame++) {
                if (!frameEqualsReflected(frame, other, frame)) {
                    return false;
                }
            }
            return true;
        }

        boolean isForSlips() {
            return state == BUILT && frames >= LEAST_FRAMES_TO_FLOAT;
        }
    }

    /** All that undo and restore bring back. */
    private static final class Yard {
        final Hull[] hulls = new Hull[MOST_HULLS];
        final int[] tides = new int[TIDES];
        final int[] slips = new int[SLIPS];
        final Orders orders = new Orders();
        int begun;
        int now;
        long paid;

        Yard() {
            for (int hull = 0; hull < MOST_HULLS; hull++) {
                hulls[hull] = new Hull();
            }
            for (int tide = 0; tide < TIDES; tide++) {
                tides[tide] = 4 * Math.min(tide, TIDES - tide);
            }
            for (int slip = 0; slip < SLIPS; slip++) {
                slips[slip] = 2 * (slip + 1);
            }
        }

        void become(Yard other) {
            for (int hull = 0; hull < MOST_HULLS; hull++) {
                hulls[hull].become(other.hulls[hull]);
            }
            System.arraycopy(other.tides, 0, tides, 0, TIDES);
            System.arraycopy(other.slips, 0, slips, 0, SLIPS);
            orders.become(other.orders);
            begun = other.begun;
            now = other.now;
            paid = other.paid;
        }

        boolean hasHull(int hull) {
            return hull >= 0 && hull < begun;
        }

        int tideIn(int hours) {
            return tides[Math.floorMod(now + hours, TIDES)];
        }

        /** Answers how many hulls come before this one in the order of weights. */
        int rankByWeight(int hull) {
            int weight = hulls[hull].weight();
            int before = 0;
            for (int other = 0; other < begun; other++) {
                int otherWeight = hulls[other].weight();
                if (otherWeight < weight || (otherWeight == weight && other < hull)) {
                    before++;
                }
            }
            return before;
        }

        /** Answers the first reason against a launch, or 0. */
        int refusalOf(int hull) {
            if (hulls[hull].frames < LEAST_FRAMES_TO_FLOAT) {
                return TOO_SHORT;
            }
            int draught = hulls[hull].triedDraught();
            if (draught == NO_DRAUGHT) {
                return TOO_HEAVY;
            }
            return draught > tideIn(0) ? LOW_TIDE : 0;
        }

        // ---- what stands against a modification

        int faultOf(int kind, int first, int second, int third) {
            switch (kind) {
                case HULL:
                    return begun < MOST_HULLS ? FINE : WRONG_STATE;
                case FRAME:
                    return faultOfFrame(first, second, third);
                case MIRROR:
                    return faultUnlessIn(first, BUILT, BUILT);
                case CARGO:
                    return faultOfUnits(first, second, 0, BUILT);
                case LAUNCH:
                    return faultOfLaunch(first);
                case CAULK:
                    return faultOfCaulking(first, second);
                case PUMP:
                    return faultOfUnits(first, second, 1, AFLOAT);
                case HOURS:
                    return isFromTo(first, 1, MOST_HOURS_TO_PASS) ? FINE : BAD_NUMBER;
                case TIDE:
                    return isFromTo(first, 0, TIDES - 1) && isFromTo(second, 0, HIGHEST_TIDE) ? FINE : BAD_NUMBER;
                case ORDER:
                    return faultOfOrder(first, second, third);
                case DELIVER:
                    return faultOfDelivery(first, second);
                case SLIP:
                    return isFromTo(first, 0, SLIPS - 1) && isFromTo(second, 0, MOST_FRAMES) ? FINE : BAD_NUMBER;
                default:
                    return WRONG_STATE;
            }
        }

        private int faultUnlessIn(int hull, int firstState, int lastState) {
            if (!hasHull(hull)) {
                return NO_INDEX;
            }
            return isFromTo(hulls[hull].state, firstState, lastState) ? FINE : WRONG_STATE;
        }

        private int faultOfFrame(int hull, int left, int right) {
            if (!hasHull(hull)) {
                return NO_INDEX;
            }
            if (!isFromTo(left, 1, WIDEST_FRAME) || !isFromTo(right, 1, WIDEST_FRAME)) {
                return BAD_NUMBER;
            }
            return hulls[hull].state == BUILT && hulls[hull].frames < MOST_FRAMES ? FINE : WRONG_STATE;
        }

        private int faultOfUnits(int hull, int units, int leastUnits, int firstState) {
            if (hasHull(hull) && !isFromTo(units, leastUnits, MOST_UNITS)) {
                return BAD_NUMBER;
            }
            return faultUnlessIn(hull, firstState, AFLOAT);
        }

        private int faultOfLaunch(int hull) {
            int fault = faultUnlessIn(hull, BUILT, BUILT);
            if (fault == FINE && refusalOf(hull) != 0) {
                return REFUSED;
            }
            return fault;
        }

        private int faultOfCaulking(int hull, int seam) {
            if (hasHull(hull) && !hulls[hull].hasSeam(seam)) {
                return NO_INDEX;
            }
            return faultUnlessIn(hull, BUILT, AFLOAT);
        }

        private int faultOfOrder(int frames, int hour, int coins) {
            if (!isFromTo(frames, LEAST_FRAMES_TO_FLOAT, MOST_FRAMES) || !isFromTo(hour, 0, MOST_UNITS)
                    || !isFromTo(coins, 1, MOST_UNITS)) {
                return BAD_NUMBER;
            }
            return orders.count < MOST_ORDERS ? FINE : WRONG_STATE;
        }

        private int faultOfDelivery(int order, int hull) {
            int position = orders.positionOf(order);
            if (position < 0) {
                return NOT_FOUND;
            }
            int fault = faultUnlessIn(hull, AFLOAT, AFLOAT);
            if (fault == FINE && hulls[hull].frames != orders.frames[position]) {
                return WRONG_STATE;
            }
            return fault;
        }

        // ---- the modifications; each is called only when nothing stands against it

        int perform(int kind, int first, int second, int third) {
            switch (kind) {
                case HULL:
                    begun++;
                    return begun - 1;
                case FRAME:
                    return hulls[first].addFrameAtStern(second, third);
                case MIRROR:
                    return hulls[first].exchangeSides();
                case CARGO:
                    return changeCargo(hulls[first], second);
                case LAUNCH:
                    hulls[first].state = AFLOAT;
                    return hulls[first].triedDraught();
                case CAULK:
                    return replace(hulls[first].caulking, second, TIGHT_SEAM);
                case PUMP:
                    hulls[first].water = Math.max(0, hulls[first].water - second);
                    return hulls[first].water;
                case HOURS:
                    return letHoursPass(first);
                case TIDE:
                    return replace(tides, first, second);
                case ORDER:
                    return orders.append(first, second, third);
                case DELIVER:
                    return handOver(first, second);
                case SLIP:
                    return replace(slips, first, second);
                default:
                    return 0;
            }
        }

        private static int replace(int[] numbers, int index, int number) {
            int previous = numbers[index];
            numbers[index] = number;
            return previous;
        }

        private static int changeCargo(Hull hull, int cargo) {
            int previous = hull.cargo;
            hull.cargo = cargo;
            return previous;
        }

        private int letHoursPass(int hours) {
            int sunk = 0;
            for (int passed = 0; passed < hours; passed++) {
                now++;
                for (int hull = 0; hull < begun; hull++) {
                    if (sinksInThisHour(hulls[hull])) {
                        sunk++;
                    }
                }
            }
            return sunk;
        }

        private boolean sinksInThisHour(Hull hull) {
            if (hull.state != AFLOAT) {
                return false;
            }
            hull.leak(now);
            if (hull.floats()) {
                return false;
            }
            hull.state = SUNK;
            return true;
        }

        private int handOver(int order, int hull) {
            int position = orders.positionOf(order);
            int coins = orders.coinsDue(position, now);
            orders.removeAt(position);
            hulls[hull].state = DELIVERED;
            paid += coins;
            return coins;
        }
    }

    /** The orders that exist, in the order of their ids. */
    private static final class Orders {
        final int[] ids = new int[MOST_ORDERS];
        final int[] frames = new int[MOST_ORDERS];
        final int[] hours = new int[MOST_ORDERS];
        final int[] coins = new int[MOST_ORDERS];
        private final boolean[] taken = new boolean[MOST_ORDERS];
        int count;
        private int nextId;

        void become(Orders other) {
            System.arraycopy(other.ids, 0, ids, 0, MOST_ORDERS);
            System.arraycopy(other.frames, 0, frames, 0, MOST_ORDERS);
            System.arraycopy(other.hours, 0, hours, 0, MOST_ORDERS);
            System.arraycopy(other.coins, 0, coins, 0, MOST_ORDERS);
            count = other.count;
            nextId = other.nextId;
        }

        /** Answers -1 if no order has this id. */
        int positionOf(int id) {
            for (int position = 0; position < count; position++) {
                if (ids[position] == id) {
                    return position;
                }
            }
            return -1;
        }

        int coinsDue(int position, int now) {
            int late = Math.max(0, now - hours[position]);
            return Math.max(0, coins[position] - late);
        }

        int append(int frameCount, int byHour, int coinCount) {
            ids[count] = nextId;
            frames[count] = frameCount;
            hours[count] = byHour;
            coins[count] = coinCount;
            count++;
            nextId++;
            return nextId - 1;
        }

        void removeAt(int position) {
            for (int next = position + 1; next < count; next++) {
                ids[next - 1] = ids[next];
                frames[next - 1] = frames[next];
                hours[next - 1] = hours[next];
                coins[next - 1] = coins[next];
            }
            count--;
        }

        /**
         * Hulls with the same number of frames are good for the same orders and no others are, so each hull
         * may take the dearest order that is left for it.
         */
        int bestSum(Hull[] hulls, int hullCount, int now) {
            for (int position = 0; position < MOST_ORDERS; position++) {
                taken[position] = false;
            }
            int sum = 0;
            for (int hull = 0; hull < hullCount; hull++) {
                int dearest = hulls[hull].state == AFLOAT ? dearestLeft(hulls[hull].frames, now) : -1;
                if (dearest >= 0) {
                    taken[dearest] = true;
                    sum += coinsDue(dearest, now);
                }
            }
            return sum;
        }

        /** Answers -1 if no order is left for this number of frames. */
        private int dearestLeft(int frameCount, int now) {
            int dearest = -1;
            for (int position = 0; position < count; position++) {
                if (!taken[position] && frames[position] == frameCount
                        && (dearest < 0 || coinsDue(position, now) > coinsDue(dearest, now))) {
                    dearest = position;
                }
            }
            return dearest;
        }
    }

    /** The stretches of frames that a hull has in common with the reflection of another one. */
    private static final class Stretches {
        /** How long the stretch is that ends before these two frames; its first row and column stay 0. */
        private final int[][] lengths = new int[MOST_FRAMES + 1][MOST_FRAMES + 1];

        int longestByTable(Hull hull, Hull other) {
            int longest = 0;
            for (int frame = 0; frame < hull.frames; frame++) {
                for (int otherFrame = 0; otherFrame < other.frames; otherFrame++) {
                    boolean alike = hull.frameEqualsReflected(frame, other, otherFrame);
                    int length = alike ? lengths[frame][otherFrame] + 1 : 0;
                    lengths[frame + 1][otherFrame + 1] = length;
                    longest = Math.max(longest, length);
                }
            }
            return longest;
        }

        int longestByTrying(Hull hull, Hull other) {
            int longest = 0;
            for (int frame = 0; frame < hull.frames; frame++) {
                for (int otherFrame = 0; otherFrame < other.frames; otherFrame++) {
                    longest = Math.max(longest, lengthFrom(hull, frame, other, otherFrame));
                }
            }
            return longest;
        }

        private static int lengthFrom(Hull hull, int frame, Hull other, int otherFrame) {
            int most = Math.min(hull.frames - frame, other.frames - otherFrame);
            int length = 0;
            while (length < most && hull.frameEqualsReflected(frame + length, other, otherFrame + length)) {
                length++;
            }
            return length;
        }
    }

    /** Finds how well the slips can be used; its rows are made once and used again by every call. */
    private static final class SlipPlan {
        private static final int NOBODY = -1;
        private static final int SETS_OF_HULLS = 1 << MOST_HULLS;

        private final int[] hullOn = new int[SLIPS];
        private final boolean[] asked = new boolean[SLIPS];
        private final int[] uses = new int[SETS_OF_HULLS];

        private static boolean fits(Yard yard, int hull, int slip) {
            return yard.hulls[hull].isForSlips() && yard.slips[slip] >= yard.hulls[hull].frames;
        }

        private void clearSlips() {
            for (int slip = 0; slip < SLIPS; slip++) {
                hullOn[slip] = NOBODY;
            }
        }

        int mostByMoving(Yard yard) {
            clearSlips();
            int placed = 0;
            for (int hull = 0; hull < yard.begun; hull++) {
                for (int slip = 0; slip < SLIPS; slip++) {
                    asked[slip] = false;
                }
                if (findsPlace(this, yard, hull, 0)) {
                    placed++;
                }
            }
            return placed;
        }

        /** Each level asks a slip that was not asked before, so there are no more levels than slips. */
        private static boolean findsPlace(SlipPlan plan, Yard yard, int hull, int depth) {
            if (depth >= SLIPS) {
                return false;
            }
            for (int slip = 0; slip < SLIPS; slip++) {
                if (!plan.asked[slip] && fits(yard, hull, slip)) {
                    plan.asked[slip] = true;
                    if (plan.hullOn[slip] == NOBODY || findsPlace(plan, yard, plan.hullOn[slip], depth + 1)) {
                        plan.hullOn[slip] = hull;
                        return true;
                    }
                }
            }
            return false;
        }

        int mostFromShortest(Yard yard) {
            clearSlips();
            int placed = 0;
            for (int frames = LEAST_FRAMES_TO_FLOAT; frames <= MOST_FRAMES; frames++) {
                for (int hull = 0; hull < yard.begun; hull++) {
                    int slip = yard.hulls[hull].frames == frames ? shortestFreeSlip(yard, hull) : NOBODY;
                    if (slip != NOBODY) {
                        hullOn[slip] = hull;
                        placed++;
                    }
                }
            }
            return placed;
        }

        /** Answers NOBODY if no slip is free for this hull. */
        private int shortestFreeSlip(Yard yard, int hull) {
            int shortest = NOBODY;
            for (int slip = 0; slip < SLIPS; slip++) {
                if (hullOn[slip] == NOBODY && fits(yard, hull, slip)
                        && (shortest == NOBODY || yard.slips[slip] < yard.slips[shortest])) {
                    shortest = slip;
                }
            }
            return shortest;
        }

        int countBestUses(Yard yard) {
            for (int set = 0; set < SETS_OF_HULLS; set++) {
                uses[set] = 0;
            }
            uses[0] = 1;
            for (int slip = 0; slip < SLIPS; slip++) {
                addUsesWith(yard, slip);
            }
            int most = 0;
            int count = 0;
            for (int set = 0; set < SETS_OF_HULLS; set++) {
                int hulls = Integer.bitCount(set);
                if (uses[set] > 0 && hulls >= most) {
                    count = hulls > most ? uses[set] : count + uses[set];
                    most = hulls;
                }
            }
            return count;
        }

        /** Goes from greater sets to smaller ones, so that no use gets two hulls on this slip. */
        private void addUsesWith(Yard yard, int slip) {
            for (int set = SETS_OF_HULLS - 1; set >= 0; set--) {
                for (int hull = 0; hull < yard.begun; hull++) {
                    int single = 1 << hull;
                    if ((set & single) == 0 && fits(yard, hull, slip)) {
                        uses[set | single] += uses[set];
                    }
                }
            }
        }
    }

    /** The yards before the last modifications, in a ring that is made once. */
    private static final class History {
        private final Yard[] kept = new Yard[MOST_UNDOABLE];
        private int oldest;
        int size;

        History() {
            for (int place = 0; place < MOST_UNDOABLE; place++) {
                kept[place] = new Yard();
            }
        }

        void keep(Yard yard) {
            kept[(oldest + size) % MOST_UNDOABLE].become(yard);
            if (size < MOST_UNDOABLE) {
                size++;
            } else {
                oldest = (oldest + 1) % MOST_UNDOABLE;
            }
        }

        void takeBack(Yard yard) {
            size--;
            yard.become(kept[(oldest + size) % MOST_UNDOABLE]);
        }
    }

    /** The buffer, and the commands that are read from it. */
    private static final class Program {
        private static final int COMMAND_KINDS = SLIP;
        /** The shortest command has four characters and a semicolon ahead of the next one. */
        private static final int MOST_COMMANDS = (MOST_CHARACTERS + 1) / 5;
        private static final int MOST_NUMBERS = 3;
        private static final int MOST_DIGITS = 3;

        private final char[] text = new char[MOST_CHARACTERS];
        int length;
        final int[] kinds = new int[MOST_COMMANDS];
        private final int[] numbers = new int[MOST_COMMANDS * MOST_NUMBERS];
        int commands;
        int error;
        /** Where the last form that was tried ended or did not fit. */
        private int reached;

        int append(char character) {
            text[length] = character;
            length++;
            return length;
        }

        int numberOf(int command, int place) {
            return numbers[command * MOST_NUMBERS + place];
        }

        /** In a form, # stands for a digit and * for a number; all other characters stand for themselves. */
        private static String formOf(int kind) {
            switch (kind) {
                case HULL:
                    return "hull";
                case FRAME:
                    return "frame # */*";
                case MIRROR:
                    return "mirror #";
                case CARGO:
                    return "cargo # *";
                case LAUNCH:
                    return "launch #";
                case CAULK:
                    return "caulk # #";
                case PUMP:
                    return "pump # *";
                case HOURS:
                    return "hours *";
                case TIDE:
                    return "tide * *";
                case ORDER:
                    return "order # * *";
                default:
                    return "deliver * #";
            }
        }

        /** Answers whether the text is a program; error tells where it is not. */
        boolean read() {
            int at = 0;
            for (int command = 0; command < MOST_COMMANDS; command++) {
                if (!readCommand(command, at)) {
                    return false;
                }
                commands = command + 1;
                at = reached;
                if (at >= length) {
                    return true;
                }
                if (text[at] != ';') {
                    error = at;
                    return false;
                }
                at++;
            }
            // Only a full buffer that ends with a semicolon comes here: it ends too early.
            error = at;
            return false;
        }

        /** The error is where the form that goes furthest does not fit: up to there it could be a program. */
        private boolean readCommand(int command, int from) {
            error = from;
            for (int kind = 0; kind < COMMAND_KINDS; kind++) {
                if (fitsForm(formOf(kind), command, from)) {
                    kinds[command] = kind;
                    return true;
                }
                error = Math.max(error, reached);
            }
            return false;
        }

        private boolean fitsForm(String form, int command, int from) {
            int place = command * MOST_NUMBERS;
            reached = from;
            for (int index = 0; index < form.length(); index++) {
                char sign = form.charAt(index);
                int mostDigits = sign == '#' ? 1 : sign == '*' ? MOST_DIGITS : 0;
                int digits = countDigits(mostDigits);
                if (digits > 0) {
                    numbers[place] = valueOf(digits);
                    place++;
                    reached += digits;
                } else if (mostDigits == 0 && reached < length && text[reached] == sign) {
                    reached++;
                } else {
                    return false;
                }
            }
            return true;
        }

        private int countDigits(int most) {
            int digits = 0;
            while (digits < most && reached + digits < length && isFromTo(text[reached + digits], '0', '9')) {
                digits++;
            }
            return digits;
        }

        private int valueOf(int digits) {
            int value = 0;
            for (int digit = 0; digit < digits; digit++) {
                value = 10 * value + text[reached + digit] - '0';
            }
            return value;
        }
    }
}
