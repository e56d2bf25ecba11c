import java.util.NoSuchElementException;

/** Promises 46 to 51: line and programs. */
public final class ProgramsTest {
    private static final Check check = new Check("ProgramsTest");

    public static void main(String[] args) {
        line();
        typing();
        everyCommand();
        malformed();
        earlierPrograms();
        failing();
        fullBuffer();
        check.end();
    }

    /** Promises 46 and 47. */
    private static void line() {
        PuddleBoatyard yard = Yards.withHulls(0, 1, 3);
        check.fails("47 empty at first", IndexOutOfBoundsException.class, () -> yard.lineAt(0));
        check.is("46 no frames", "0b", Yards.line(yard, 0));
        check.fails("47 end", IndexOutOfBoundsException.class, () -> yard.lineAt(2));
        check.fails("47 negative", IndexOutOfBoundsException.class, () -> yard.lineAt(-1));
        check.is("46 one frame", "1b 5|5", Yards.line(yard, 1));
        check.is("46 length", 18, yard.writeHull(2));
        check.fails("46 hull", IndexOutOfBoundsException.class, () -> yard.writeHull(3));
        check.fails("46 negative hull", IndexOutOfBoundsException.class, () -> yard.writeHull(-1));
        check.is("46 the line stays", '9', yard.lineAt(13));
        check.is("46 in place of it", 2, yard.writeHull(0));
        check.fails("47 the old one is gone", IndexOutOfBoundsException.class, () -> yard.lineAt(2));
        PuddleBoatyard states = Yards.withAllStates();
        check.is("46 built", "0b 5|5~9 5|5", Yards.line(states, 0));
        check.is("46 afloat", "1a 5|5~9 5|5", Yards.line(states, 1));
        check.is("46 delivered", "2d 5|5~9 5|5", Yards.line(states, 2));
        check.is("46 sunk", "3s 5|5~9 5|5", Yards.line(states, 3));
        PuddleBoatyard wide = new PuddleBoatyard();
        wide.beginHull();
        for (int frame = 0; frame < 8; frame++) {
            wide.addFrame(0, 30, 10 + frame);
        }
        check.is("46 longest", "0b 30|10~9 30|11~9 30|12~9 30|13~9 30|14~9 30|15~9 30|16~9 30|17",
                Yards.line(wide, 0));
    }

    /** Promise 48. */
    private static void typing() {
        PuddleBoatyard yard = new PuddleBoatyard();
        check.is("48 first", 1, yard.type(' '));
        check.is("48 last sign", 2, yard.type('~'));
        for (char wrong : new char[] {0, 31, 127, 128, 255, 65535}) {
            check.fails("48 sign", IllegalArgumentException.class, () -> yard.type(wrong));
        }
        for (int length = 3; length <= 60; length++) {
            check.is("48 length", length, yard.type('x'));
        }
        check.fails("48 full", IllegalStateException.class, () -> yard.type('x'));
        check.fails("48 sign first", IllegalArgumentException.class, () -> yard.type((char) 127));
        check.fails("49 malformed", IllegalArgumentException.class, yard::execute);
        check.is("49 empties", 1, yard.type('x'));
    }

    /** Promise 49: each command calls its method with its numbers in their places. */
    private static void everyCommand() {
        PuddleBoatyard yard = new PuddleBoatyard();
        check.is("49 two", 2, Yards.run(yard, "hull;hull"));
        check.is("49 hulls", 2, yard.hullCount());
        check.is("49 frames", 3, Yards.run(yard, "frame 1 3/4;frame 1 30/029;frame 1 006/1"));
        check.is("49 widths", "1b 3|4~9 30|29~9 6|1", Yards.line(yard, 1));
        check.is("49 mirror", 1, Yards.run(yard, "mirror 1"));
        check.is("49 mirrored", "1b 4|3~9 29|30~9 1|6", Yards.line(yard, 1));
        check.is("49 cargo", 1, Yards.run(yard, "cargo 1 50"));
        check.is("49 weight", 123, yard.weightOf(1));
        check.is("49 tide", 1, Yards.run(yard, "tide 0 50"));
        check.is("49 height", 50, yard.tideAfter(0));
        check.is("49 launch", 1, Yards.run(yard, "launch 1"));
        check.is("49 afloat", PuddleBoatyard.AFLOAT, yard.stateOf(1));
        check.is("49 hours", 1, Yards.run(yard, "hours 12"));
        check.is("49 hour", 12, yard.hour());
        check.is("49 caulk", 1, Yards.run(yard, "caulk 1 1"));
        check.is("49 caulked", "1a 4|3~7 29|30~9 1|6", Yards.line(yard, 1));
        check.is("49 pump", 1, Yards.run(yard, "pump 1 5"));
        check.is("49 pumped", 7, yard.waterIn(1));
        check.is("49 order", 2, Yards.run(yard, "order 2 5 99;order 3 10 40"));
        check.is("49 coins", 92, yard.coinsFor(0));
        check.is("49 other coins", 38, yard.coinsFor(1));
        check.is("49 deliver", 1, Yards.run(yard, "deliver 001 1"));
        check.is("49 paid", 38L, yard.paidCoins());
        check.is("49 delivered", PuddleBoatyard.DELIVERED, yard.stateOf(1));
        check.is("49 six", 6, Yards.run(yard, "hull;hull;hull;hull;tide 11 3;tide 2 1"));
        check.is("remembered", "throws NoSuchElementException, throws NoSuchElementException, "
                + "throws NoSuchElementException", Yards.remembered(yard));
    }

    /** Promises 49 and 50. */
    private static void malformed() {
        String[] texts = {"", "x", ";", "h", "ho", "hu", "hul", "hull", "hulls", "hull ", "hull;", "hull;;", "hull;x",
            " hull", "HULL", "hx", "hours", "hours ", "hours x", "hours 1x", "hours 1234", "hours  1", "hours 12 ",
            "frame", "frame ", "frame 1", "frame 12", "frame 1 ", "frame 1 2", "frame 1 2 ", "frame 1 2/",
            "frame 1 2/x", "frame 1 1234", "frame 1 123/1234", "frame 1 2/3 ", "frame 1 /3", "mirror #", "mirror *",
            "mirror a", "mirror 10", "cargo 1", "cargo 1 *", "caulk 1 10", "cargo1", "ca", "cb", "launch", "launch 1;",
            "launch 11", "pump 1 1 1", "pump 1 1;pumpe", "tide 12", "tide 12 1234", "tide 1 2;t", "tides",
            "order 22 1 1", "order 2 1 1111", "order 2 1", "deliver 1234 1", "deliver 123 12", "deliver 123 ",
            "deliver 1", "d", "deliver 1 1;hull;hell", "frame 1 1/1;frame 1 1:1", "hull,hull", "hull;cargo 0 0;hull!",
            "hull;hull;hull;hull;hull;hull;hull;hull;hull;hull;hull;hull;",
            "hull;hull;hull;hull;hull;hull;hull;hull;hull;hull;hull;hulls"};
        int[] errors = {0, 0, 0, 1, 2, 2, 3, -1, 4, 4, 5, 5, 5,
            0, 0, 1, 5, 6, 6, 7, 9, 6, 8,
            5, 6, 7, 7, 8, 9, 9, 10,
            10, 11, 15, 11, 8, 7, 7,
            7, 8, 7, 8, 9, 5, 2, 1, 6, 9,
            8, 8, 13, 7, 11, 10, 4,
            7, 13, 9, 11, 13, 12,
            9, 1, 18, 21, 4, 19,
            60, 59};
        check.is("texts and errors", texts.length, errors.length);
        for (int i = 0; i < texts.length; i++) {
            PuddleBoatyard yard = new PuddleBoatyard();
            check.fails("50 none so far", NoSuchElementException.class, yard::errorPosition);
            String text = texts[i];
            if (errors[i] < 0) {
                check.is("49 " + text, 1, Yards.run(yard, text));
                continue;
            }
            String before = Yards.seen(yard);
            check.fails("49 " + text, IllegalArgumentException.class, () -> Yards.run(yard, text));
            check.is("50 " + text, errors[i], yard.errorPosition());
            check.is("49 nothing changed", before, Yards.seen(yard));
            check.fails("51 malformed is not failed", NoSuchElementException.class, yard::failedCommand);
            check.is("49 empties", 1, yard.type('x'));
            check.fails("52 nothing to undo", IllegalStateException.class, yard::undo);
        }
        PuddleBoatyard yard = new PuddleBoatyard();
        check.fails("49 first", IllegalArgumentException.class, () -> Yards.run(yard, "hull;x"));
        check.is("49 then a good one", 1, Yards.run(yard, "hull"));
        check.is("50 is kept", 5, yard.errorPosition());
        check.fails("49 second", IllegalArgumentException.class, () -> Yards.run(yard, "z"));
        check.is("50 the last one", 0, yard.errorPosition());
    }

    /** Promise 49: what an earlier program left behind the end of the buffer does not count. */
    private static void earlierPrograms() {
        String[] texts = {"hul", "hull;", "hull;mirror", "hull;mirror "};
        for (String text : texts) {
            PuddleBoatyard yard = new PuddleBoatyard();
            check.is("49 earlier", 2, Yards.run(yard, "hull;mirror 0"));
            check.fails("49 " + text, IllegalArgumentException.class, () -> Yards.run(yard, text));
            check.is("50 " + text, text.length(), yard.errorPosition());
        }
        PuddleBoatyard yard = new PuddleBoatyard();
        check.is("49 earlier", 1, Yards.run(yard, "hours 12"));
        check.is("49 fewer digits", 1, Yards.run(yard, "hours 3"));
        check.is("26 hour", 15, yard.hour());
        check.fails("49 too early at the sixtieth", IllegalArgumentException.class,
                () -> Yards.run(yard, "hull;hull;hull;hull;hull;hull;hull;hull;hull;hull;hull;hour"));
        check.is("50 at the end", 59, yard.errorPosition());
        check.fails("49 too early at the sixtieth", IllegalArgumentException.class,
                () -> Yards.run(yard, "hours 1;hull;hull;hull;hull;hull;hull;hull;hull;hull;tide 01"));
        check.is("50 behind the sixtieth", 60, yard.errorPosition());
    }

    /** Promises 49 and 51: a program that fails changes nothing but what is remembered. */
    private static void failing() {
        PuddleBoatyard yard = Yards.withHulls(2);
        check.fails("51 none so far", NoSuchElementException.class, yard::failedCommand);
        String[] texts = {"mirror 1", "hull;hull;mirror 9", "frame 0 0/1", "frame 0 1/31", "cargo 0 9;cargo 1 0",
            "caulk 0 1", "pump 0 1", "hours 0", "hours 99;hours 100", "tide 12 0", "tide 0 51", "order 1 0 1",
            "order 2 0 1;order 2 0 0", "deliver 0 0", "order 2 0 1;deliver 0 0", "hull;launch 1", "launch 0",
            "hull;hull;hull;hull;hull;hull", "hull;frame 1 1/1;hours 3;order 3 3 3;tide 1 1;pump 0 0"};
        int[] failed = {0, 2, 0, 0, 1, 0, 0, 0, 1, 0, 0, 0, 1, 0, 1, 1, 0, 5, 5};
        check.is("texts and failed", texts.length, failed.length);
        String before = Yards.seen(yard);
        for (int i = 0; i < texts.length; i++) {
            String text = texts[i];
            check.fails("49 " + text, IllegalStateException.class, () -> Yards.run(yard, text));
            check.is("51 " + text, failed[i], yard.failedCommand());
            check.is("49 nothing changed by " + text, before, Yards.seen(yard));
            check.is("49 empties", 1, yard.type('x'));
            check.fails("49 malformed", IllegalArgumentException.class, yard::execute);
            check.is("51 malformed leaves it", failed[i], yard.failedCommand());
        }
        check.is("36 no id was given", 0, yard.addOrder(2, 0, 1));
        refusedInProgram();
    }

    private static void refusedInProgram() {
        PuddleBoatyard yard = Yards.withHulls(2, 1);
        check.fails("49 too short", IllegalStateException.class, () -> Yards.run(yard, "launch 1"));
        check.is("44 too short", PuddleBoatyard.TOO_SHORT, yard.refusalReason());
        check.fails("49 low tide", IllegalStateException.class, () -> Yards.run(yard, "hull;launch 0"));
        check.is("44 low tide", PuddleBoatyard.LOW_TIDE, yard.refusalReason());
        check.fails("49 too heavy", IllegalStateException.class, () -> Yards.run(yard, "cargo 0 999;launch 0"));
        check.is("44 too heavy", PuddleBoatyard.TOO_HEAVY, yard.refusalReason());
        check.is("49 the cargo is as before", 20, yard.weightOf(0));
        check.fails("49 another failure", IllegalStateException.class, () -> Yards.run(yard, "launch 5"));
        check.is("44 no refusal", PuddleBoatyard.TOO_HEAVY, yard.refusalReason());
        check.is("49 succeeds", 2, Yards.run(yard, "tide 0 2;launch 0"));
        check.is("44 is kept", PuddleBoatyard.TOO_HEAVY, yard.refusalReason());
        check.is("51 is kept", 0, yard.failedCommand());
    }

    /** Promises 48 and 49: the longest programs. */
    private static void fullBuffer() {
        PuddleBoatyard yard = new PuddleBoatyard();
        check.fails("49 twelve commands", IllegalStateException.class,
                () -> Yards.run(yard, "hull;hull;hull;hull;hull;hull;hull;hull;hull;hull;hull;hull"));
        check.is("51 the seventh", 6, yard.failedCommand());
        String text = "hull;hours 12;tide 11 7;order 2 1 9;order 3 100 100;hull;hull";
        check.is("61 characters", 61, text.length());
        check.is("49 sixty", 7, Yards.run(yard, text.replace("12", "2")));
        check.is("49 hulls", 3, yard.hullCount());
        check.is("49 hour", 2, yard.hour());
    }
}
