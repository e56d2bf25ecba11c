/** The edges that promises 46 to 51 name: line and programs. */
public final class ProgramEdgesTest {
    private static final Edges edges = new Edges("ProgramEdgesTest", 46, 51);
    private static final String IS_MALFORMED =
            "Throws `IllegalArgumentException` if the program is malformed; its error position is stored";
    private static final String COMMAND_THROWS = "Throws `IllegalStateException` if the method of a command throws an "
            + "exception; the index of the command is stored, and the refusal, if it is a refused launch";
    private static final String MALFORMED = "throws IllegalArgumentException";
    private static final String FAILS = "throws IllegalStateException";
    private static final String UNKNOWN = "throws NoSuchElementException";
    private static final String SIX_HULLS = "hull;hull;hull;hull;hull;hull";
    private static final String SIXTY = SIX_HULLS + ";hours 001;tide 0 001;hours 009";

    /** Each command with numbers that every yard of {@link #ready} allows. */
    private static final String[] COMMANDS = {"hull", "frame 0 1/30", "mirror 0", "cargo 0 999", "launch 0", "caulk 1 0",
        "pump 1 999", "hours 99", "tide 11 50", "order 8 999 999", "deliver 1 1"};

    public static void main(String[] args) {
        writeHull();
        lineAt();
        type();
        malformed();
        everyPrefix();
        wrongDigits();
        failing();
        rangesInPrograms();
        failedRefusal();
        allOrNone();
        longest();
        errorPosition();
        failedCommand();
        edges.end();
    }

    /** Hull 0 is built, 1 afloat, 2 delivered, 3 sunk; there is one order, with the id 1. */
    private static PuddleBoatyard ready() {
        PuddleBoatyard yard = Yards.withAllStates();
        yard.addOrder(2, 0, 9);
        return yard;
    }

    private static void writeHull() {
        edges.hulls(46, Edges.NO_HULL, () -> Yards.withHulls(2, 2, 2, 2, 2, 2), PuddleBoatyard::writeHull);
        edges.at(46, "Writes a hull to the line, in place of the line before: its number, \"b\", \"a\", \"d\" or \"s\" for its "
                + "state, and then for each frame a blank, the left width, \"|\" and the right width, followed, if there is a "
                + "seam behind it, by \"~\" and its caulking; as in \"2a 5|5~9 7|6~8 4|4\".", () -> {
            PuddleBoatyard yard = new PuddleBoatyard();
            StringBuilder frames = new StringBuilder();
            for (int hull = 0; hull < 6; hull++) {
                yard.beginHull();
                edges.is("no frames", hull + "b", Yards.line(yard, hull));
            }
            for (int frame = 0; frame < 8; frame++) {
                yard.addFrame(5, 9 + frame, 10 - frame);
                frames.append(frame == 0 ? " " : "~9 ").append(9 + frame).append('|').append(10 - frame);
                edges.is("no seam behind the last one", "5b" + frames, Yards.line(yard, 5));
            }
            edges.is("in place of the longer one", "4b", Yards.line(yard, 4));
            for (int hull = 0; hull < 4; hull++) {
                edges.is("states", "" + hull + "bads".charAt(hull) + " 5|5~9 5|5", Yards.line(Yards.withAllStates(), hull));
            }
            edges.is("as in the document", "2a 5|5~9 7|6~8 4|4", Yards.line(example(), 2));
            edges.is("the length", 18, example().writeHull(2));
        });
    }

    private static PuddleBoatyard example() {
        PuddleBoatyard yard = Yards.withHulls(0, 0, 1);
        yard.addFrame(2, 7, 6);
        yard.addFrame(2, 4, 4);
        yard.setTide(0, 50);
        yard.launch(2);
        yard.pass(6);
        yard.caulk(2, 0);
        return yard;
    }

    private static PuddleBoatyard written(int frames, int width) {
        PuddleBoatyard yard = Yards.withHulls(0);
        for (int frame = 0; frame < frames; frame++) {
            yard.addFrame(0, width, width);
        }
        yard.writeHull(0);
        return yard;
    }

    private static void lineAt() {
        edges.at(47, "Returns a character of the line, which is empty at first.", () -> {
            edges.refuses(Edges.INDEX, PuddleBoatyard::new, yard -> yard.lineAt(0));
            edges.refuses(Edges.INDEX, () -> Yards.withHulls(8), yard -> yard.lineAt(0));
        });
        edges.at(47, "- `index`: index of the character, from 0", () -> {
            PuddleBoatyard yard = written(8, 30);
            edges.is("first", '0', yard.lineAt(0));
            edges.is("last", '0', yard.lineAt(63));
            edges.is("before it", '3', yard.lineAt(62));
        });
        edges.at(47, "Throws `IndexOutOfBoundsException` if there is no such character", () -> {
            edges.refusesOutside(0, -1, Edges.INDEX, PuddleBoatyard::new, PuddleBoatyard::lineAt);
            edges.range(0, 1, Edges.INDEX, () -> written(0, 1), PuddleBoatyard::lineAt);
            edges.range(0, 5, Edges.INDEX, () -> written(1, 1), PuddleBoatyard::lineAt);
            edges.range(0, 63, Edges.INDEX, () -> written(8, 30), PuddleBoatyard::lineAt);
            edges.range(0, 11, Edges.INDEX, Yards::rich, PuddleBoatyard::lineAt);
            PuddleBoatyard shorter = written(8, 30);
            shorter.beginHull();
            shorter.writeHull(1);
            edges.is("of the line before", "throws IndexOutOfBoundsException", Check.outcome(() -> shorter.lineAt(2)));
            PuddleBoatyard kept = written(1, 1);
            Check.outcome(() -> kept.writeHull(1));
            edges.is("a refused writeHull leaves the line", '|', kept.lineAt(4));
        });
    }

    private static void type() {
        edges.at(48, "Throws `IllegalArgumentException` if the character is not from 32 to 126", () -> {
            for (int character = 0; character <= 65535; character++) {
                char typed = (char) character;
                if (character >= 32 && character <= 126) {
                    edges.is("allowed " + character, 1, new PuddleBoatyard().type(typed));
                } else if (character < 300 || character % 977 == 0 || character > 65500) {
                    edges.refuses(Edges.ARGUMENT, PuddleBoatyard::new, yard -> yard.type(typed));
                }
            }
            edges.refuses(Edges.ARGUMENT, Yards::rich, yard -> yard.type((char) 31));
            edges.refuses(Edges.ARGUMENT, Yards::rich, yard -> yard.type((char) 127));
        });
        edges.at(48, "Throws `IllegalStateException` if the buffer contains 60 characters", () -> {
            edges.is("the sixtieth", 60, typed("x".repeat(59)).type('x'));
            edges.refuses(Edges.STATE, () -> typed("x".repeat(60)), yard -> yard.type('x'));
            edges.refuses(Edges.STATE, () -> typed(SIXTY), yard -> yard.type('x'));
            PuddleBoatyard emptied = typed("x".repeat(60));
            Check.outcome(emptied::execute);
            for (int length = 1; length <= 60; length++) {
                edges.is("room again", length, emptied.type('x'));
            }
        });
        edges.at(48, "Returns the number of characters in the buffer.", () -> {
            PuddleBoatyard yard = new PuddleBoatyard();
            edges.is("the first one", 1, yard.type(' '));
            edges.is("the second one", 2, yard.type('~'));
        });
    }

    private static PuddleBoatyard typed(String text) {
        PuddleBoatyard yard = new PuddleBoatyard();
        Yards.typeAll(yard, text);
        return yard;
    }

    /** Executes it on a yard like {@link #ready}; nothing but the buffer and what is remembered may change. */
    private static void runs(String text, Object want, Object error, Object failed) {
        PuddleBoatyard yard = ready();
        Yards.typeAll(yard, text);
        edges.is(text, want, Check.outcome(yard::execute));
        edges.is(text + ", error position", error, Check.outcome(yard::errorPosition));
        edges.is(text + ", failed command", failed, Check.outcome(yard::failedCommand));
        if (want.toString().startsWith("throws")) {
            edges.same(text + " changes nothing",
                    Yards.everything(ready()).replaceFirst("error:.*", "error:" + error)
                            .replaceFirst("failed:.*", "failed:" + failed),
                    Yards.everything(yard));
        } else {
            edges.is("emptied", 1, yard.type('x'));
        }
    }

    private static void malformed() {
        edges.at(49, IS_MALFORMED, () -> {
            runs("", MALFORMED, 0, UNKNOWN);
            runs(";", MALFORMED, 0, UNKNOWN);
            runs(" ", MALFORMED, 0, UNKNOWN);
            runs("hull;", MALFORMED, 5, UNKNOWN);
            runs("hull ;hull", MALFORMED, 4, UNKNOWN);
            runs("hull; hull", MALFORMED, 5, UNKNOWN);
            runs("hull;;hull", MALFORMED, 5, UNKNOWN);
            runs("Hull", MALFORMED, 0, UNKNOWN);
            runs("frame 0 1 1", MALFORMED, 9, UNKNOWN);
            runs("frame 0/1/1", MALFORMED, 7, UNKNOWN);
            runs("deliver 1 1 ", MALFORMED, 11, UNKNOWN);
            runs("mirror 9;x", MALFORMED, 9, UNKNOWN);
            String[] words = {"frame", "mirror", "cargo", "launch", "caulk", "pump", "hours", "tide", "order", "deliver"};
            for (String word : words) {
                for (char first : new char[] {'/', ':', ' ', '-', 'a', '#', '*', '~'}) {
                    runs(word + " " + first, MALFORMED, word.length() + 1, UNKNOWN);
                }
                runs(word + "1", MALFORMED, word.length(), UNKNOWN);
                runs(word + ";", MALFORMED, word.length(), UNKNOWN);
                runs("s" + word, MALFORMED, 0, UNKNOWN);
            }
        });
    }

    /** Each program, cut off at each place, ends too early there, unless it may end there. */
    private static void everyPrefix() {
        edges.at(0, "The error position of a malformed program is the index of the first character that cannot continue any "
                + "program, or the length of the text if it ends too early.", () -> {
            for (String command : COMMANDS) {
                String text = "mirror 0;" + command;
                runs(text, 2, UNKNOWN, UNKNOWN);
                int stop = text.length();
                while (Character.isDigit(text.charAt(stop - 1)) && Character.isDigit(text.charAt(stop - 2))) {
                    stop--;
                }
                for (int length = 9; length < stop; length++) {
                    runs(text.substring(0, length), MALFORMED, length, UNKNOWN);
                    runs(text.substring(0, length) + "!", MALFORMED, length, UNKNOWN);
                    runs(text.substring(0, length) + "!" + text.substring(length), MALFORMED, length, UNKNOWN);
                }
                runs(text + "!", MALFORMED, text.length(), UNKNOWN);
                runs(text + ";", MALFORMED, text.length() + 1, UNKNOWN);
            }
        });
    }

    /** A digit is one digit, and a number has no more than three. */
    private static void wrongDigits() {
        edges.at(49, IS_MALFORMED, () -> {
            runs("frame 00 1/1", MALFORMED, 7, UNKNOWN);
            runs("frame 0 0001/1", MALFORMED, 11, UNKNOWN);
            runs("frame 0 001/0001", MALFORMED, 15, UNKNOWN);
            runs("frame 0 /1", MALFORMED, 8, UNKNOWN);
            runs("mirror 00", MALFORMED, 8, UNKNOWN);
            runs("cargo 00 1", MALFORMED, 7, UNKNOWN);
            runs("cargo 0 0001", MALFORMED, 11, UNKNOWN);
            runs("launch 00", MALFORMED, 8, UNKNOWN);
            runs("caulk 01 0", MALFORMED, 7, UNKNOWN);
            runs("caulk 1 00", MALFORMED, 9, UNKNOWN);
            runs("pump 01 1", MALFORMED, 6, UNKNOWN);
            runs("pump 1 0001", MALFORMED, 10, UNKNOWN);
            runs("hours 0001", MALFORMED, 9, UNKNOWN);
            runs("tide 0000 1", MALFORMED, 8, UNKNOWN);
            runs("tide 000 0001", MALFORMED, 12, UNKNOWN);
            runs("order 02 1 1", MALFORMED, 7, UNKNOWN);
            runs("order 2 0001 1", MALFORMED, 11, UNKNOWN);
            runs("order 2 001 0001", MALFORMED, 15, UNKNOWN);
            runs("deliver 0001 1", MALFORMED, 11, UNKNOWN);
            runs("deliver 001 01", MALFORMED, 13, UNKNOWN);
            runs("frame 0 001/030", 1, UNKNOWN, UNKNOWN);
            runs("cargo 0 000", 1, UNKNOWN, UNKNOWN);
            runs("pump 1 001", 1, UNKNOWN, UNKNOWN);
            runs("tide 000 050", 1, UNKNOWN, UNKNOWN);
            runs("order 2 000 001", 1, UNKNOWN, UNKNOWN);
            runs("deliver 001 1", 1, UNKNOWN, UNKNOWN);
        });
    }

    private static void failing() {
        edges.at(49, COMMAND_THROWS, () -> {
            String[] ofEach = {"frame 9 1/1", "frame 4 1/1", "frame 0 0/1", "frame 1 1/1", "mirror 4", "mirror 1", "cargo 4 1",
                "cargo 2 1", "launch 4", "launch 3", "caulk 4 0", "caulk 0 1", "caulk 3 0", "pump 4 1", "pump 1 0", "pump 0 1",
                "hours 0", "tide 12 1", "tide 1 51", "order 1 1 1", "order 2 1 0", "deliver 0 1", "deliver 1 4", "deliver 1 0"};
            for (String command : ofEach) {
                runs(command, FAILS, UNKNOWN, 0);
                runs("hull;" + command.replace('4', '9'), FAILS, UNKNOWN, 1);
                runs(command + ";hull", FAILS, UNKNOWN, 0);
                runs("mirror 0;tide 0 1;hours 1;" + command + ";" + command, FAILS, UNKNOWN, 3);
            }
        });
    }

    /** The ends of the ranges hold in programs as they do in calls; what is outside fails, and is not malformed. */
    private static void rangesInPrograms() {
        edges.at(49, COMMAND_THROWS, () -> {
            inRange("frame 0 ", 1, 30, "/15");
            inRange("frame 0 15/", 1, 30, "");
            inRange("mirror ", 0, 0, "");
            inRange("launch ", 0, 0, "");
            inRange("caulk 1 ", 0, 0, "");
            inRange("pump 1 ", 1, 999, "");
            inRange("hours ", 1, 99, "");
            inRange("tide ", 0, 11, " 1");
            inRange("tide 1 ", 0, 50, "");
            inRange("order ", 2, 8, " 1 1");
            inRange("order 2 1 ", 1, 999, "");
            inRange("deliver ", 1, 1, " 1");
            runs("cargo 0 0", 1, UNKNOWN, UNKNOWN);
            runs("cargo 0 999", 1, UNKNOWN, UNKNOWN);
            runs("order 2 0 1", 1, UNKNOWN, UNKNOWN);
            runs("order 2 999 1", 1, UNKNOWN, UNKNOWN);
        });
    }

    private static void inRange(String before, int least, int most, String behind) {
        runs(before + least + behind, 1, UNKNOWN, UNKNOWN);
        runs(before + most + behind, 1, UNKNOWN, UNKNOWN);
        if (least > 0) {
            runs(before + (least - 1) + behind, FAILS, UNKNOWN, 0);
        }
        if (most < 999) {
            runs(before + (most + 1) + behind, FAILS, UNKNOWN, 0);
        }
    }

    private static void failedRefusal() {
        edges.at(49, COMMAND_THROWS, () -> {
            refusedIn("launch 1", PuddleBoatyard.TOO_SHORT, 0);
            refusedIn("tide 0 1;launch 0", PuddleBoatyard.LOW_TIDE, 1);
            refusedIn("tide 0 50;cargo 0 381;launch 0", PuddleBoatyard.TOO_HEAVY, 2);
            refusedIn("hull;launch 2", PuddleBoatyard.TOO_SHORT, 1);
            // One that is refused no longer when its turn comes.
            PuddleBoatyard yard = Yards.withHulls(2, 1);
            edges.is("tide first", 2, Yards.run(yard, "tide 0 50;launch 0"));
            edges.is("no refusal", UNKNOWN, Check.outcome(yard::refusalReason));
            edges.is("not built any more", FAILS, Check.outcome(() -> Yards.run(yard, "launch 0")));
            edges.is("is no refusal", UNKNOWN, Check.outcome(yard::refusalReason));
        });
    }

    private static void refusedIn(String text, int reason, int failed) {
        PuddleBoatyard yard = Yards.withHulls(2, 1);
        edges.is(text, FAILS, Check.outcome(() -> Yards.run(yard, text)));
        edges.is(text + ", remembered", reason + ", " + UNKNOWN + ", " + failed, Yards.remembered(yard));
        edges.same(text + " changes nothing else", Yards.everything(Yards.withHulls(2, 1))
                .replaceFirst("refusal:.*", "refusal:" + reason).replaceFirst("failed:.*", "failed:" + failed),
                Yards.everything(yard));
    }

    private static void allOrNone() {
        edges.at(49, "Executes the program in the buffer, all commands of it or none, and empties the buffer.", () -> {
            PuddleBoatyard earlier = new PuddleBoatyard();
            edges.is("three digits", 1, Yards.run(earlier, "hours 099"));
            edges.is("one digit, where there were three", 1, Yards.run(earlier, "hours 1"));
            edges.is("hour", 100, earlier.hour());
            edges.is("too early, where there was more", MALFORMED, Check.outcome(() -> Yards.run(earlier, "hours ")));
            edges.is("its end", 6, earlier.errorPosition());
            PuddleBoatyard yard = ready();
            String before = Yards.seen(yard);
            Yards.typeAll(yard, "hull;tide 0 9;hours 9;order 3 1 1;deliver 1 1;mirror 9");
            edges.is("none", FAILS, Check.outcome(yard::execute));
            edges.same("as before", before, Yards.seen(yard));
            edges.is("the next id was not given", 2, yard.addOrder(2, 0, 1));
            yard.undo();
            Yards.typeAll(yard, "hull;tide 0 9;hours 9;order 3 1 1;deliver 1 1;mirror 4");
            edges.is("all", 6, yard.execute());
            edges.is("hulls", 5, yard.hullCount());
            edges.is("hour", 10, yard.hour());
            edges.is("a new order", 2, yard.orderAt(0));
            edges.is("paid", 1L, yard.paidCoins());
            edges.is("emptied", MALFORMED, Check.outcome(yard::execute));
            edges.is("so it ends too early", 0, yard.errorPosition());
        });
    }

    private static void longest() {
        edges.at(49, "Returns the number of commands.", () -> {
            PuddleBoatyard one = new PuddleBoatyard();
            edges.is("the fewest", 1, Yards.run(one, "hull"));
            PuddleBoatyard nine = new PuddleBoatyard();
            edges.is("the most that can succeed", 9, Yards.run(nine, SIX_HULLS + ";hours 1;hours 1;hours 1"));
            edges.is("hulls", 6, nine.hullCount());
            edges.is("hours", 3, nine.hour());
            PuddleBoatyard last = new PuddleBoatyard();
            edges.is("the last one fails", FAILS,
                    Check.outcome(() -> Yards.run(last, SIX_HULLS + ";hours 1;hours 1;hours 0")));
            edges.is("its index", 8, last.failedCommand());
            edges.is("none", 0, last.hullCount());
            PuddleBoatyard twelve = new PuddleBoatyard();
            edges.is("the most that can be typed", FAILS,
                    Check.outcome(() -> Yards.run(twelve, SIX_HULLS + ";" + SIX_HULLS)));
            edges.is("the seventh hull", 6, twelve.failedCommand());
            edges.is("none of twelve", 0, twelve.hullCount());
            PuddleBoatyard full = new PuddleBoatyard();
            edges.is("sixty characters", 60, SIXTY.length());
            edges.is("up to the sixtieth", 9, Yards.run(full, SIXTY));
            edges.is("which counts", 10, full.hour());
        });
    }

    private static void errorPosition() {
        edges.at(50, "Throws `NoSuchElementException` if no program was malformed so far", () -> {
            edges.refuses(Edges.NO_ELEMENT, PuddleBoatyard::new, PuddleBoatyard::errorPosition);
            PuddleBoatyard yard = new PuddleBoatyard();
            Yards.run(yard, "hull");
            Check.outcome(() -> Yards.run(yard, "mirror 9"));
            Check.outcome(() -> yard.type((char) 0));
            edges.is("good and failing ones", UNKNOWN, Check.outcome(yard::errorPosition));
        });
        edges.at(50, "Returns the error position of the last malformed program.", () -> {
            PuddleBoatyard yard = new PuddleBoatyard();
            Check.outcome(yard::execute);
            edges.is("the least", 0, yard.errorPosition());
            Check.outcome(() -> Yards.run(yard, SIX_HULLS + ";" + SIX_HULLS + ";"));
            edges.is("the greatest", 60, yard.errorPosition());
            Check.outcome(() -> Yards.run(yard, SIX_HULLS + ";" + SIX_HULLS + "x"));
            edges.is("the sixtieth character", 59, yard.errorPosition());
            Check.outcome(() -> Yards.run(yard, SIX_HULLS + ";" + SIX_HULLS));
            edges.is("a failing one leaves it", 59, yard.errorPosition());
            Yards.run(yard, "hull");
            edges.is("a good one leaves it", 59, yard.errorPosition());
            Check.outcome(() -> Yards.run(yard, "x"));
            edges.is("the least again", 0, yard.errorPosition());
        });
    }

    private static void failedCommand() {
        edges.at(51, "Throws `NoSuchElementException` if no command failed so far", () -> {
            edges.refuses(Edges.NO_ELEMENT, PuddleBoatyard::new, PuddleBoatyard::failedCommand);
            PuddleBoatyard yard = new PuddleBoatyard();
            Yards.run(yard, "hull");
            Check.outcome(() -> Yards.run(yard, "mirror 9;x"));
            Check.outcome(() -> yard.mirror(9));
            edges.is("good and malformed ones, and calls", UNKNOWN, Check.outcome(yard::failedCommand));
        });
        edges.at(51, "Returns the index in its program, from 0.", () -> {
            PuddleBoatyard yard = new PuddleBoatyard();
            for (int good = 0; good <= 6; good++) {
                String text = "hull;".repeat(good) + "hours 0";
                edges.is(text, FAILS, Check.outcome(() -> Yards.run(yard, text)));
                edges.is(text + " failed", good, yard.failedCommand());
            }
            Check.outcome(() -> Yards.run(yard, "x"));
            edges.is("a malformed one leaves it", 6, yard.failedCommand());
            Yards.run(yard, "hull");
            edges.is("a good one leaves it", 6, yard.failedCommand());
            Check.outcome(() -> Yards.run(yard, "hours 0"));
            edges.is("the last one", 0, yard.failedCommand());
        });
    }
}
