import java.util.ArrayDeque;
import java.util.ArrayList;
import java.util.Deque;
import java.util.HashMap;
import java.util.List;
import java.util.Map;
import java.util.NoSuchElementException;
import java.util.regex.Matcher;
import java.util.regex.Pattern;

/**
 * The document once more, as plainly as the Java library allows, by other ways than the class takes: searches
 * through all possibilities, programs by regular expressions, and copies of the whole state.
 */
final class PlainYard {
    private static final class Hull {
        final List<int[]> frames = new ArrayList<>();
        final List<Integer> seams = new ArrayList<>();
        int state;
        int cargo;
        int water;

        Hull copy() {
            Hull hull = new Hull();
            for (int[] frame : frames) {
                hull.frames.add(frame.clone());
            }
            hull.seams.addAll(seams);
            hull.state = state;
            hull.cargo = cargo;
            hull.water = water;
            return hull;
        }

        int weight() {
            return cargo + water + frames.stream().mapToInt(f -> f[0] + f[1]).sum();
        }

        long buoyancy(int draught) {
            long sum = 0;
            for (int i = 0; i + 1 < frames.size(); i++) {
                sum += frames.get(i)[0] + frames.get(i)[1] + frames.get(i + 1)[0] + frames.get(i + 1)[1];
            }
            return sum * draught / 2;
        }

        int draught() {
            for (int draught = 0; draught <= 40; draught++) {
                if (buoyancy(draught) >= weight()) {
                    return draught;
                }
            }
            throw new NoSuchElementException();
        }

        boolean canFloat() {
            try {
                draught();
                return true;
            } catch (NoSuchElementException e) {
                return false;
            }
        }
    }

    private static final class State {
        final List<Hull> hulls = new ArrayList<>();
        int[] tides = {0, 4, 8, 12, 16, 20, 24, 20, 16, 12, 8, 4};
        int[] slips = {2, 4, 6, 8};
        /** Each order: id, frames, hour, coins. */
        final List<int[]> orders = new ArrayList<>();
        int nextId;
        int hour;
        long paid;

        State copy() {
            State state = new State();
            for (Hull hull : hulls) {
                state.hulls.add(hull.copy());
            }
            state.tides = tides.clone();
            state.slips = slips.clone();
            state.orders.addAll(orders);
            state.nextId = nextId;
            state.hour = hour;
            state.paid = paid;
            return state;
        }
    }

    private State now = new State();
    private final Deque<State> before = new ArrayDeque<>();
    private State snapshot;
    private String buffer = "";
    private String line = "";
    private int refusal;
    private int error = -1;
    private int failed = -1;
    private boolean inProgram;

    private void modified(State previous) {
        if (inProgram) {
            return;
        }
        before.addLast(previous);
        if (before.size() > 8) {
            before.removeFirst();
        }
    }

    private Hull hull(int hull) {
        if (hull < 0 || hull >= now.hulls.size()) {
            throw new IndexOutOfBoundsException();
        }
        return now.hulls.get(hull);
    }

    private static void range(long number, long least, long most) {
        if (number < least || number > most) {
            throw new IllegalArgumentException();
        }
    }

    private static void need(boolean holds) {
        if (!holds) {
            throw new IllegalStateException();
        }
    }

    int beginHull() {
        need(now.hulls.size() < 6);
        modified(now.copy());
        now.hulls.add(new Hull());
        return now.hulls.size() - 1;
    }

    int addFrame(int hull, int left, int right) {
        Hull h = hull(hull);
        range(left, 1, 30);
        range(right, 1, 30);
        need(h.state == 0 && h.frames.size() < 8);
        modified(now.copy());
        if (!h.frames.isEmpty()) {
            h.seams.add(9);
        }
        h.frames.add(new int[] {left, right});
        return h.frames.size();
    }

    int mirror(int hull) {
        Hull h = hull(hull);
        need(h.state == 0);
        modified(now.copy());
        int count = 0;
        for (int i = 0; i < h.frames.size(); i++) {
            int[] f = h.frames.get(i);
            count += f[0] == f[1] ? 0 : 1;
            h.frames.set(i, new int[] {f[1], f[0]});
        }
        return count;
    }

    int setCargo(int hull, int cargo) {
        Hull h = hull(hull);
        range(cargo, 0, 999);
        need(h.state == 0 || h.state == 1);
        modified(now.copy());
        int previous = h.cargo;
        h.cargo = cargo;
        return previous;
    }

    int launch(int hull) {
        Hull h = hull(hull);
        need(h.state == 0);
        int reason = h.frames.size() < 2 ? 1 : !h.canFloat() ? 2 : h.draught() > now.tides[now.hour % 12] ? 3 : 0;
        if (reason != 0) {
            refusal = reason;
            throw new UnsupportedOperationException();
        }
        modified(now.copy());
        h.state = 1;
        return h.draught();
    }

    int caulk(int hull, int seam) {
        Hull h = hull(hull);
        caulkingOf(hull, seam);
        need(h.state == 0 || h.state == 1);
        modified(now.copy());
        return h.seams.set(seam, 9);
    }

    int pump(int hull, int units) {
        Hull h = hull(hull);
        range(units, 1, 999);
        need(h.state == 1);
        modified(now.copy());
        h.water = h.water < units ? 0 : h.water - units;
        return h.water;
    }

    int hullCount() {
        return now.hulls.size();
    }

    int stateOf(int hull) {
        return hull(hull).state;
    }

    int frameCount(int hull) {
        return hull(hull).frames.size();
    }

    int widthOf(int hull, int frame, boolean isLeft) {
        if (frame < 0 || frame >= hull(hull).frames.size()) {
            throw new IndexOutOfBoundsException();
        }
        return hull(hull).frames.get(frame)[isLeft ? 0 : 1];
    }

    int caulkingOf(int hull, int seam) {
        if (seam < 0 || seam >= hull(hull).seams.size()) {
            throw new IndexOutOfBoundsException();
        }
        return hull(hull).seams.get(seam);
    }

    int waterIn(int hull) {
        return hull(hull).water;
    }

    int weightOf(int hull) {
        return hull(hull).weight();
    }

    int draughtOf(int hull) {
        return hull(hull).draught();
    }

    int heelOf(int hull) {
        return hull(hull).frames.stream().mapToInt(f -> f[0] - f[1]).sum();
    }

    int hullAtRank(int rank) {
        List<Integer> order = new ArrayList<>();
        for (int i = 0; i < now.hulls.size(); i++) {
            order.add(i);
        }
        order.sort((a, b) -> Integer.compare(weightOf(a), weightOf(b)));
        if (rank < 0 || rank >= order.size()) {
            throw new NoSuchElementException();
        }
        return order.get(rank);
    }

    private static String text(List<int[]> frames, boolean reflected) {
        StringBuilder text = new StringBuilder();
        for (int[] f : frames) {
            text.append('<').append(f[reflected ? 1 : 0]).append(',').append(f[reflected ? 0 : 1]).append('>');
        }
        return text.toString();
    }

    boolean isSymmetric(int hull) {
        return isReflectionOf(hull, hull);
    }

    boolean isReflectionOf(int hull, int other) {
        return text(hull(hull).frames, false).equals(text(hull(other).frames, true));
    }

    int commonStretch(int hull, int other) {
        List<int[]> frames = hull(hull).frames;
        String reflection = text(hull(other).frames, true);
        int longest = 0;
        for (int from = 0; from < frames.size(); from++) {
            for (int to = from + 1; to <= frames.size(); to++) {
                if (reflection.contains(text(frames.subList(from, to), false))) {
                    longest = Math.max(longest, to - from);
                }
            }
        }
        return longest;
    }

    int setTide(int tide, int height) {
        range(tide, 0, 11);
        range(height, 0, 50);
        modified(now.copy());
        int previous = now.tides[tide];
        now.tides[tide] = height;
        return previous;
    }

    private int passHour() {
        now.hour++;
        int sunk = 0;
        for (Hull h : now.hulls) {
            if (h.state == 1) {
                for (int caulking : h.seams) {
                    h.water += 9 - caulking;
                }
            }
        }
        for (Hull h : now.hulls) {
            if (h.state == 1 && now.hour % 6 == 0) {
                h.seams.replaceAll(caulking -> caulking == 0 ? 0 : caulking - 1);
            }
        }
        for (Hull h : now.hulls) {
            if (h.state == 1 && !h.canFloat()) {
                h.state = 3;
                sunk++;
            }
        }
        return sunk;
    }

    int pass(int hours) {
        range(hours, 1, 99);
        modified(now.copy());
        int sunk = 0;
        for (int i = 0; i < hours; i++) {
            sunk += passHour();
        }
        return sunk;
    }

    int hour() {
        return now.hour;
    }

    int tideAfter(int hours) {
        range(hours, 0, 999);
        return now.tides[(now.hour + hours) % 12];
    }

    int hoursToLaunch(int hull) {
        Hull h = hull(hull);
        need(h.state == 0);
        for (int hours = 0; hours < 100; hours++) {
            if (h.frames.size() >= 2 && h.draught() <= tideAfter(hours)) {
                return hours;
            }
        }
        throw new NoSuchElementException();
    }

    int hoursToSinking(int hull) {
        need(hull(hull).state == 1);
        State kept = now;
        now = kept.copy();
        try {
            for (int hours = 1; hours <= 500; hours++) {
                passHour();
                if (hull(hull).state == 3) {
                    return hours;
                }
            }
            throw new NoSuchElementException();
        } finally {
            now = kept;
        }
    }

    int setSlip(int slip, int length) {
        range(slip, 0, 3);
        range(length, 0, 8);
        modified(now.copy());
        int previous = now.slips[slip];
        now.slips[slip] = length;
        return previous;
    }

    int slipLength(int slip) {
        range(slip, 0, 3);
        return now.slips[slip];
    }

    /** How many uses there are with each number of hulls, hull by hull through all slips. */
    private void countUses(int hull, boolean[] taken, int placed, int[] uses) {
        if (hull == now.hulls.size()) {
            uses[placed]++;
            return;
        }
        countUses(hull + 1, taken, placed, uses);
        Hull h = now.hulls.get(hull);
        for (int slip = 0; slip < 4; slip++) {
            if (!taken[slip] && h.state == 0 && h.frames.size() >= 2 && now.slips[slip] >= h.frames.size()) {
                taken[slip] = true;
                countUses(hull + 1, taken, placed + 1, uses);
                taken[slip] = false;
            }
        }
    }

    private int[] uses() {
        int[] uses = new int[7];
        countUses(0, new boolean[4], 0, uses);
        return uses;
    }

    int mostOnSlips() {
        int[] uses = uses();
        int most = 6;
        while (uses[most] == 0) {
            most--;
        }
        return most;
    }

    int bestUses() {
        return uses()[mostOnSlips()];
    }

    int addOrder(int frames, int hour, int coins) {
        range(frames, 2, 8);
        range(hour, 0, 999);
        range(coins, 1, 999);
        need(now.orders.size() < 6);
        modified(now.copy());
        now.orders.add(new int[] {now.nextId, frames, hour, coins});
        return now.nextId++;
    }

    private int[] order(int id) {
        for (int[] order : now.orders) {
            if (order[0] == id) {
                return order;
            }
        }
        throw new NoSuchElementException();
    }

    int deliver(int id, int hull) {
        int[] order = order(id);
        Hull h = hull(hull);
        need(h.state == 1 && h.frames.size() == order[1]);
        modified(now.copy());
        int coins = coinsFor(id);
        now.orders.remove(order);
        h.state = 2;
        now.paid += coins;
        return coins;
    }

    int orderCount() {
        return now.orders.size();
    }

    int orderAt(int position) {
        if (position < 0 || position >= now.orders.size()) {
            throw new IndexOutOfBoundsException();
        }
        return now.orders.get(position)[0];
    }

    int coinsFor(int id) {
        int[] order = order(id);
        int coins = order[3];
        for (int hour = order[2]; hour < now.hour && coins > 0; hour++) {
            coins--;
        }
        return coins;
    }

    private int bestFrom(int position, int used) {
        if (position == now.orders.size()) {
            return 0;
        }
        int best = bestFrom(position + 1, used);
        int[] order = now.orders.get(position);
        for (int i = 0; i < now.hulls.size(); i++) {
            Hull h = now.hulls.get(i);
            if ((used >> i & 1) == 0 && h.state == 1 && h.frames.size() == order[1]) {
                best = Math.max(best, coinsFor(order[0]) + bestFrom(position + 1, used | 1 << i));
            }
        }
        return best;
    }

    int bestDelivery() {
        return bestFrom(0, 0);
    }

    long paidCoins() {
        return now.paid;
    }

    int hullsIn(int state) {
        range(state, 0, 3);
        return (int) now.hulls.stream().filter(h -> h.state == state).count();
    }

    private static int known(int number, int unknown) {
        if (number == unknown) {
            throw new NoSuchElementException();
        }
        return number;
    }

    int refusalReason() {
        return known(refusal, 0);
    }

    double meanWeight() {
        if (now.hulls.isEmpty()) {
            throw new ArithmeticException();
        }
        return (double) now.hulls.stream().mapToInt(Hull::weight).sum() / (double) now.hulls.size();
    }

    int writeHull(int hull) {
        Hull h = hull(hull);
        StringBuilder text = new StringBuilder().append(hull).append("bads".charAt(h.state));
        for (int i = 0; i < h.frames.size(); i++) {
            text.append(String.format(" %d|%d", h.frames.get(i)[0], h.frames.get(i)[1]));
            if (i < h.seams.size()) {
                text.append("~" + h.seams.get(i));
            }
        }
        line = text.toString();
        return line.length();
    }

    char lineAt(int index) {
        if (index < 0 || index >= line.length()) {
            throw new IndexOutOfBoundsException();
        }
        return line.charAt(index);
    }

    int type(char character) {
        range(character, 32, 126);
        need(buffer.length() < 60);
        buffer += character;
        return buffer.length();
    }

    private static final Pattern COMMAND = Pattern.compile("(hull)|(frame) (\\d) (\\d{1,3})/(\\d{1,3})|(mirror) (\\d)"
            + "|(cargo) (\\d) (\\d{1,3})|(launch) (\\d)|(caulk) (\\d) (\\d)|(pump) (\\d) (\\d{1,3})|(hours) (\\d{1,3})"
            + "|(tide) (\\d{1,3}) (\\d{1,3})|(order) (\\d) (\\d{1,3}) (\\d{1,3})|(deliver) (\\d{1,3}) (\\d)");
    private static final Pattern PROGRAM = Pattern.compile(
            "(?:" + COMMAND.pattern() + ")(?:;(?:" + COMMAND.pattern() + "))*");

    private static boolean canBegin(String text) {
        Matcher matcher = PROGRAM.matcher(text);
        return matcher.matches() || matcher.hitEnd();
    }

    private static int errorIn(String text) {
        for (int length = 1; length <= text.length(); length++) {
            if (!canBegin(text.substring(0, length))) {
                return length - 1;
            }
        }
        return text.length();
    }

    int execute() {
        String text = buffer;
        buffer = "";
        if (!PROGRAM.matcher(text).matches()) {
            error = errorIn(text);
            throw new IllegalArgumentException();
        }
        State previous = now.copy();
        inProgram = true;
        String[] commands = text.split(";");
        try {
            for (int i = 0; i < commands.length; i++) {
                try {
                    call(commands[i].split("[ /]"));
                } catch (RuntimeException e) {
                    failed = i;
                    now = previous;
                    throw new IllegalStateException();
                }
            }
        } finally {
            inProgram = false;
        }
        modified(previous);
        return commands.length;
    }

    private interface Calls {
        int on(int a, int b, int c);
    }

    private final Map<String, Calls> calls = new HashMap<>();

    PlainYard() {
        calls.put("hull", (a, b, c) -> beginHull());
        calls.put("frame", (a, b, c) -> addFrame(a, b, c));
        calls.put("mirror", (a, b, c) -> mirror(a));
        calls.put("cargo", (a, b, c) -> setCargo(a, b));
        calls.put("launch", (a, b, c) -> launch(a));
        calls.put("caulk", (a, b, c) -> caulk(a, b));
        calls.put("pump", (a, b, c) -> pump(a, b));
        calls.put("hours", (a, b, c) -> pass(a));
        calls.put("tide", (a, b, c) -> setTide(a, b));
        calls.put("order", (a, b, c) -> addOrder(a, b, c));
        calls.put("deliver", (a, b, c) -> deliver(a, b));
    }

    private void call(String[] words) {
        int[] numbers = new int[3];
        for (int i = 1; i < words.length; i++) {
            numbers[i - 1] = Integer.parseInt(words[i]);
        }
        calls.get(words[0]).on(numbers[0], numbers[1], numbers[2]);
    }

    int errorPosition() {
        return known(error, -1);
    }

    int failedCommand() {
        return known(failed, -1);
    }

    int undo() {
        need(!before.isEmpty());
        now = before.removeLast();
        return before.size();
    }

    int save() {
        snapshot = now.copy();
        return now.hour;
    }

    int restore() {
        need(snapshot != null);
        now = snapshot.copy();
        before.clear();
        return now.hour;
    }
}
