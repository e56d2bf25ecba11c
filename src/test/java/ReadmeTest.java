import java.io.File;
import java.io.IOException;
import java.lang.reflect.Field;
import java.lang.reflect.Method;
import java.lang.reflect.Modifier;
import java.nio.file.Files;
import java.nio.file.Path;
import java.util.ArrayList;
import java.util.Arrays;
import java.util.Comparator;
import java.util.List;
import java.util.TreeSet;
import java.util.regex.Matcher;
import java.util.regex.Pattern;
import java.util.stream.Stream;

/** README.md: its examples answer what it says, its commands work from the project's root, its tables are whole. */
public final class ReadmeTest {
    private static final Path TESTS = Path.of("src/test/java");
    private static final String ALL_TESTS = ".ci/run";
    private static final Pattern TEST_ROW = Pattern.compile("\\| `(\\w+Test)` \\|.*");
    private static final Pattern COMMAND_ROW = Pattern.compile("\\| `([a-z]+(?: [0-9 /]+)?)` \\| `(\\w+)\\(([0-9, ]*)\\)` \\|");
    private static final Pattern ANSWERED = Pattern.compile("(?:\\w+ (\\w+) = )?([^;]+); +// (throws \\w+|\\S+).*");
    private static final Check check = new Check("ReadmeTest");

    private static List<String> lines;
    private static Path scratch;

    public static void main(String[] args) throws Exception {
        lines = Files.readAllLines(Path.of("README.md"));
        scratch = Files.createTempDirectory("readme");
        try {
            face();
            testTable();
            commandTable();
            examples();
            commands();
        } finally {
            remove(scratch);
        }
        check.end();
    }

    private static void remove(Path directory) throws IOException {
        try (Stream<Path> paths = Files.walk(directory)) {
            paths.sorted(Comparator.reverseOrder()).map(Path::toFile).forEach(File::delete);
        }
    }

    /** All calls and constants are told, as names between backquotes. */
    private static void face() {
        String text = String.join("\n", lines);
        for (Method method : PuddleBoatyard.class.getDeclaredMethods()) {
            if (Modifier.isPublic(method.getModifiers())) {
                check.is("tells " + method.getName(), true, text.contains("`" + method.getName() + "`"));
            }
        }
        for (Field field : PuddleBoatyard.class.getDeclaredFields()) {
            if (Modifier.isPublic(field.getModifiers())) {
                check.is("tells " + field.getName(), true, text.contains("`" + field.getName() + "`"));
            }
        }
    }

    private static void testTable() throws IOException {
        TreeSet<String> told = new TreeSet<>();
        for (String line : lines) {
            Matcher row = TEST_ROW.matcher(line);
            if (row.matches()) {
                told.add(row.group(1));
            }
        }
        TreeSet<String> present = new TreeSet<>();
        try (Stream<Path> files = Files.list(TESTS)) {
            files.map(file -> file.getFileName().toString()).filter(name -> name.endsWith("Test.java"))
                    .forEach(name -> present.add(name.replace(".java", "")));
        }
        check.is("the table of tests", present, told);
    }

    /** The command of each row and its call do the same to two boatyards that are alike. */
    private static void commandTable() throws ReflectiveOperationException {
        int rows = 0;
        String before = Yards.seen(ready());
        for (String line : lines) {
            Matcher row = COMMAND_ROW.matcher(line);
            if (row.matches()) {
                PuddleBoatyard typed = ready();
                PuddleBoatyard called = ready();
                check.is(row.group(1), 1, Check.outcome(() -> Yards.run(typed, row.group(1))));
                call(called, row.group(2), row.group(3));
                check.is(row.group(1) + " changes something", false, before.equals(Yards.seen(typed)));
                check.is(row.group(1) + " is its call", Yards.everything(called), Yards.everything(typed));
                rows++;
            }
        }
        check.is("commands", 11, rows);
    }

    /** Hull 0 can be built further and launched, hull 1 leaks, and order 0 asks for one like it. */
    private static PuddleBoatyard ready() {
        PuddleBoatyard yard = Yards.withHulls(1, 2);
        yard.addFrame(0, 7, 6);
        yard.setTide(0, 50);
        yard.launch(1);
        yard.pass(24);
        yard.addOrder(2, 99, 9);
        return yard;
    }

    private static void call(PuddleBoatyard yard, String name, String numbers) throws ReflectiveOperationException {
        Object[] arguments = Pattern.compile(", ").splitAsStream(numbers).filter(number -> !number.isEmpty())
                .map(Integer::valueOf).toArray();
        Class<?>[] types = new Class<?>[arguments.length];
        Arrays.fill(types, int.class);
        PuddleBoatyard.class.getMethod(name, types).invoke(yard, arguments);
    }

    private static void examples() throws IOException, InterruptedException {
        List<List<String>> blocks = blocks("java");
        check.is("examples", 2, blocks.size());
        for (int example = 0; example < blocks.size(); example++) {
            List<String> body = new ArrayList<>();
            for (String line : blocks.get(example)) {
                body.add(checked(line));
            }
            runs("Example" + example, body);
        }
    }

    /** A line that ends with a comment becomes a check of its answer; a line without one stays as it is. */
    private static String checked(String line) {
        Matcher answered = ANSWERED.matcher(line);
        if (!answered.matches()) {
            check.is("a comment at the end tells an answer: " + line, false, line.matches(".*;.* //.*"));
            return line;
        }
        String what = literal(answered.group(2));
        String want = literal(answered.group(3));
        if (answered.group(1) != null) {
            return line.replaceFirst("//.*", "") + "check.is(" + what + ", " + want + ", String.valueOf("
                    + answered.group(1) + "));";
        }
        return "check.is(" + what + ", " + want + ", String.valueOf(Check.outcome(() -> " + answered.group(2) + ")));";
    }

    private static String literal(String text) {
        return "\"" + text.replace("\\", "\\\\").replace("\"", "\\\"") + "\"";
    }

    private static void runs(String name, List<String> body) throws IOException, InterruptedException {
        List<String> source = new ArrayList<>();
        source.add("public final class " + name + " {");
        source.add("public static void main(String[] args) {");
        source.add("Check check = new Check(\"" + name + "\");");
        source.addAll(body);
        source.add("check.end();");
        source.add("}");
        source.add("}");
        Path file = scratch.resolve(name + ".java");
        Files.write(file, source);
        String classPath = System.getProperty("java.class.path");
        succeeds("compiling " + name, "javac", "-cp", classPath, "-d", scratch.toString(), file.toString());
        succeeds("running " + name, "java", "-cp", classPath + File.pathSeparator + scratch, name);
    }

    private static void commands() throws IOException, InterruptedException {
        List<List<String>> blocks = blocks("sh");
        check.is("blocks of commands", 3, blocks.size());
        check.is("all tests", List.of(ALL_TESTS), blocks.get(0));
        check.is("can be executed", true, Files.isExecutable(Path.of(ALL_TESTS)));
        // The first block is what runs this test, so it is not run again from here.
        for (List<String> block : blocks.subList(1, blocks.size())) {
            succeeds("running " + block, "sh", "-eu", "-c", String.join("\n", block));
        }
    }

    private static List<List<String>> blocks(String language) {
        List<List<String>> blocks = new ArrayList<>();
        boolean inside = false;
        for (String line : lines) {
            if (line.startsWith("```")) {
                inside = line.equals("```" + language);
                if (inside) {
                    blocks.add(new ArrayList<>());
                }
            } else if (inside) {
                blocks.get(blocks.size() - 1).add(line);
            }
        }
        return blocks;
    }

    private static void succeeds(String what, String... command) throws IOException, InterruptedException {
        ProcessBuilder builder = new ProcessBuilder(command).inheritIO();
        builder.environment().put("TMPDIR", scratch.toString());
        check.is(what + ", exit code", 0, builder.start().waitFor());
    }
}
