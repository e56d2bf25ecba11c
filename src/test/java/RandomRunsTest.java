import java.util.Random;

/** All promises: long runs of calls, in which the class and PlainYard have to answer the same. */
public final class RandomRunsTest {
    private static final int RUNS = 1000;
    private static final int CALLS = 512;
    private static final String[] WORDS = {"hull", "frame # */*", "mirror #", "cargo # *", "launch #", "caulk # #",
        "pump # *", "hours *", "tide * *", "order # * *", "deliver * #"};

    private final Check check = new Check("RandomRunsTest");
    private final Random random = new Random(20);
    private PuddleBoatyard yard;
    private PlainYard plain;
    private String trace;

    public static void main(String[] args) {
        RandomRunsTest test = new RandomRunsTest();
        for (int run = 0; run < RUNS; run++) {
            test.run(run);
        }
        test.check.end();
    }

    private void run(int number) {
        yard = new PuddleBoatyard();
        plain = new PlainYard();
        trace = "run " + number;
        boolean calm = number % 2 == 0;
        for (int call = 0; call < CALLS; call++) {
            if (random.nextInt(3) > 0) {
                modify(random.nextInt(calm ? 30 : 40));
            } else {
                ask(random.nextInt(31));
            }
        }
        for (int hull = 0; hull < yard.hullCount(); hull++) {
            int which = hull;
            same("weightOf", () -> yard.weightOf(which), () -> plain.weightOf(which));
        }
    }

    private void same(String what, Check.Call real, Check.Call model) {
        check.is(trace + " " + what, Check.outcome(model), Check.outcome(real));
    }

    /** Mostly a number of the range, sometimes one at its edges or just or far outside. */
    private int some(int least, int most) {
        switch (random.nextInt(30)) {
            case 0:
                return least;
            case 1:
                return most;
            case 2:
                return least - 1;
            case 3:
                return most + 1;
            case 4:
                return random.nextInt(3) > 0 ? random.nextInt(least, most + 1) : random.nextInt();
            default:
                return random.nextInt(least, most + 1);
        }
    }

    private int hull() {
        return some(0, Math.max(0, yard.hullCount() - 1));
    }

    private int order() {
        int count = yard.orderCount();
        return count > 0 && random.nextInt(5) > 0 ? yard.orderAt(random.nextInt(count)) : some(0, 9);
    }

    /** Few different widths, so that frames are often alike. */
    private int width() {
        return random.nextInt(4) > 0 ? random.nextInt(1, 4) : some(1, 30);
    }

    private void modify(int kind) {
        int a = hull();
        switch (kind) {
            case 0, 1 -> same("beginHull", () -> yard.beginHull(), () -> plain.beginHull());
            case 2, 3, 4, 5, 6, 7, 8 -> {
                int b = width();
                int c = width();
                same("addFrame", () -> yard.addFrame(a, b, c), () -> plain.addFrame(a, b, c));
            }
            case 9 -> same("mirror", () -> yard.mirror(a), () -> plain.mirror(a));
            case 10, 11 -> {
                int b = random.nextBoolean() ? some(0, 99) : some(0, 999);
                same("setCargo", () -> yard.setCargo(a, b), () -> plain.setCargo(a, b));
            }
            case 12, 13, 14 -> same("launch", () -> yard.launch(a), () -> plain.launch(a));
            case 15 -> {
                int b = some(0, 6);
                same("caulk", () -> yard.caulk(a, b), () -> plain.caulk(a, b));
            }
            case 16 -> {
                int b = random.nextBoolean() ? some(1, 20) : some(1, 999);
                same("pump", () -> yard.pump(a, b), () -> plain.pump(a, b));
            }
            case 17, 18, 19 -> {
                int b = random.nextInt(4) > 0 ? some(1, 7) : some(1, 99);
                same("pass", () -> yard.pass(b), () -> plain.pass(b));
            }
            case 20 -> {
                int b = some(0, 11);
                int c = some(0, 50);
                same("setTide", () -> yard.setTide(b, c), () -> plain.setTide(b, c));
            }
            case 21 -> {
                int b = some(0, 3);
                int c = some(0, 8);
                same("setSlip", () -> yard.setSlip(b, c), () -> plain.setSlip(b, c));
            }
            case 22, 23 -> {
                int b = some(2, 8);
                int c = some(0, 999);
                int d = some(1, 999);
                same("addOrder", () -> yard.addOrder(b, c, d), () -> plain.addOrder(b, c, d));
            }
            case 24, 25 -> {
                int b = order();
                same("deliver", () -> yard.deliver(b, a), () -> plain.deliver(b, a));
            }
            case 26, 27, 28 -> program();
            case 29 -> same("save", () -> yard.save(), () -> plain.save());
            case 30 -> same("restore", () -> yard.restore(), () -> plain.restore());
            default -> same("undo", () -> yard.undo(), () -> plain.undo());
        }
    }

    private void program() {
        StringBuilder text = new StringBuilder();
        int commands = random.nextInt(1, 6);
        for (int i = 0; i < commands; i++) {
            text.append(i > 0 ? ";" : "").append(command());
        }
        if (random.nextInt(3) == 0) {
            int at = random.nextInt(text.length() + 1);
            switch (random.nextInt(3)) {
                case 0 -> text.setLength(at);
                case 1 -> text.insert(at, (char) random.nextInt(32, 127));
                default -> text.replace(at, Math.min(text.length(), at + 1), String.valueOf(random.nextInt(10)));
            }
        }
        for (int i = 0; i < text.length(); i++) {
            char sign = text.charAt(i);
            same("type", () -> yard.type(sign), () -> plain.type(sign));
        }
        if (random.nextInt(20) > 0) {
            same("execute of " + text, () -> yard.execute(), () -> plain.execute());
            same("errorPosition of " + text, () -> yard.errorPosition(), () -> plain.errorPosition());
            same("failedCommand of " + text, () -> yard.failedCommand(), () -> plain.failedCommand());
        }
    }

    private String command() {
        String word = random.nextInt(4) == 0 ? "hull" : WORDS[random.nextInt(WORDS.length)];
        StringBuilder text = new StringBuilder();
        for (char sign : word.toCharArray()) {
            if (sign == '#') {
                text.append(random.nextInt(4) > 0 ? random.nextInt(4) : random.nextInt(10));
            } else if (sign == '*') {
                text.append(random.nextInt(4) > 0 ? random.nextInt(1, 12) : random.nextInt(1000));
            } else {
                text.append(sign);
            }
        }
        return text.toString();
    }

    private void ask(int kind) {
        int a = hull();
        int b = hull();
        int small = some(0, 7);
        boolean left = random.nextBoolean();
        switch (kind) {
            case 0 -> same("hullCount", () -> yard.hullCount(), () -> plain.hullCount());
            case 1 -> same("stateOf", () -> yard.stateOf(a), () -> plain.stateOf(a));
            case 2 -> same("frameCount", () -> yard.frameCount(a), () -> plain.frameCount(a));
            case 3 -> same("widthOf", () -> yard.widthOf(a, small, left), () -> plain.widthOf(a, small, left));
            case 4 -> same("caulkingOf", () -> yard.caulkingOf(a, small), () -> plain.caulkingOf(a, small));
            case 5 -> same("waterIn", () -> yard.waterIn(a), () -> plain.waterIn(a));
            case 6 -> same("weightOf", () -> yard.weightOf(a), () -> plain.weightOf(a));
            case 7 -> {
                same("draughtOf", () -> yard.draughtOf(a), () -> plain.draughtOf(a));
                same("draughtByHalving", () -> yard.draughtByHalving(a), () -> plain.draughtOf(a));
            }
            case 8 -> same("heelOf", () -> yard.heelOf(a), () -> plain.heelOf(a));
            case 9 -> same("hullAtRank", () -> yard.hullAtRank(small), () -> plain.hullAtRank(small));
            case 10 -> same("isSymmetric", () -> yard.isSymmetric(a), () -> plain.isSymmetric(a));
            case 11 -> same("isReflectionOf", () -> yard.isReflectionOf(a, b), () -> plain.isReflectionOf(a, b));
            case 12, 13 -> {
                same("commonStretch", () -> yard.commonStretch(a, b), () -> plain.commonStretch(a, b));
                same("commonStretchByTrying", () -> yard.commonStretchByTrying(a, b), () -> plain.commonStretch(a, b));
            }
            case 14 -> same("hour", () -> yard.hour(), () -> plain.hour());
            case 15 -> {
                int hours = some(0, 999);
                same("tideAfter", () -> yard.tideAfter(hours), () -> plain.tideAfter(hours));
            }
            case 16, 17 -> {
                same("hoursToLaunch", () -> yard.hoursToLaunch(a), () -> plain.hoursToLaunch(a));
                same("hoursToLaunchByTides", () -> yard.hoursToLaunchByTides(a), () -> plain.hoursToLaunch(a));
            }
            case 18 -> same("hoursToSinking", () -> yard.hoursToSinking(a), () -> plain.hoursToSinking(a));
            case 19 -> {
                int slip = some(0, 3);
                same("slipLength", () -> yard.slipLength(slip), () -> plain.slipLength(slip));
            }
            case 20, 21 -> {
                same("mostOnSlips", () -> yard.mostOnSlips(), () -> plain.mostOnSlips());
                same("mostOnSlipsByLengths", () -> yard.mostOnSlipsByLengths(), () -> plain.mostOnSlips());
                same("bestUses", () -> yard.bestUses(), () -> plain.bestUses());
            }
            case 22 -> same("orderCount", () -> yard.orderCount(), () -> plain.orderCount());
            case 23 -> same("orderAt", () -> yard.orderAt(small), () -> plain.orderAt(small));
            case 24 -> {
                int order = order();
                same("coinsFor", () -> yard.coinsFor(order), () -> plain.coinsFor(order));
            }
            case 25 -> same("bestDelivery", () -> yard.bestDelivery(), () -> plain.bestDelivery());
            case 26 -> same("paidCoins", () -> yard.paidCoins(), () -> plain.paidCoins());
            case 27 -> {
                int state = some(0, 3);
                same("hullsIn", () -> yard.hullsIn(state), () -> plain.hullsIn(state));
            }
            case 28 -> same("refusalReason", () -> yard.refusalReason(), () -> plain.refusalReason());
            case 29 -> same("meanWeight", () -> yard.meanWeight(), () -> plain.meanWeight());
            default -> line(a);
        }
    }

    private void line(int hull) {
        if (random.nextInt(4) > 0) {
            same("writeHull", () -> yard.writeHull(hull), () -> plain.writeHull(hull));
        }
        for (int index = -1; index < 70; index++) {
            int at = index;
            same("lineAt", () -> yard.lineAt(at), () -> plain.lineAt(at));
        }
    }
}
