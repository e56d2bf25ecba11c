import java.io.IOException;
import java.lang.reflect.Constructor;
import java.lang.reflect.Field;
import java.lang.reflect.Method;
import java.lang.reflect.Modifier;
import java.nio.file.Files;
import java.nio.file.Path;
import java.util.ArrayList;
import java.util.Arrays;
import java.util.List;
import java.util.TreeSet;

/** The public face of the document, and the rules of LANGUAGE.md that a text search can look after. */
public final class FaceTest {
    private static final Path SOURCE = Path.of("src/main/java/PuddleBoatyard.java");
    private static final Path DOCUMENT = Path.of("../shared/DOC.md");
    private static final Check check = new Check("FaceTest");

    public static void main(String[] args) throws IOException {
        constants();
        methods();
        hiddenMembers();
        language();
        check.end();
    }

    private static void constants() {
        check.is("constants", "0 1 2 3 1 2 3", PuddleBoatyard.BUILT + " " + PuddleBoatyard.AFLOAT + " "
                + PuddleBoatyard.DELIVERED + " " + PuddleBoatyard.SUNK + " " + PuddleBoatyard.TOO_SHORT + " "
                + PuddleBoatyard.TOO_HEAVY + " " + PuddleBoatyard.LOW_TIDE);
        check.is("public fields", 7L,
                Arrays.stream(PuddleBoatyard.class.getDeclaredFields()).filter(f -> isPublic(f.getModifiers())).count());
    }

    /** Every method of the document's face, with its parameters and exceptions, and no other one. */
    private static void methods() throws IOException {
        TreeSet<String> due = new TreeSet<>();
        for (String line : Files.readAllLines(DOCUMENT)) {
            if (line.startsWith("    public ") && line.contains("(") && !line.contains("PuddleBoatyard(")) {
                String plain = line.trim().replaceAll("\\b(int|boolean|char) [a-zA-Z]+(?=[,)])", "$1");
                due.add(plain.replace("public ", "").replace(";", "").replace(", ", ","));
            }
        }
        check.is("calls of the document", 53, due.size());
        TreeSet<String> got = new TreeSet<>();
        for (Method method : PuddleBoatyard.class.getDeclaredMethods()) {
            if (isPublic(method.getModifiers())) {
                got.add(signature(method));
            }
        }
        check.is("methods", due, got);
        Constructor<?>[] constructors = PuddleBoatyard.class.getDeclaredConstructors();
        check.is("constructors", 1, constructors.length);
        check.is("constructor", "public PuddleBoatyard()", constructors[0].toString());
        check.is("class", Modifier.PUBLIC | Modifier.FINAL, PuddleBoatyard.class.getModifiers());
    }

    private static String signature(Method method) {
        List<String> parameters = new ArrayList<>();
        for (Class<?> type : method.getParameterTypes()) {
            parameters.add(type.getSimpleName());
        }
        List<String> exceptions = new ArrayList<>();
        for (Class<?> type : method.getExceptionTypes()) {
            exceptions.add(type.getSimpleName());
        }
        return method.getReturnType().getSimpleName() + " " + method.getName() + "(" + String.join(",", parameters) + ")"
                + (exceptions.isEmpty() ? "" : " throws " + String.join(",", exceptions));
    }

    /** Rule 1: what is not of the face is private, and has names of its own. */
    private static void hiddenMembers() {
        TreeSet<String> names = new TreeSet<>();
        for (Method method : PuddleBoatyard.class.getDeclaredMethods()) {
            if (isPublic(method.getModifiers())) {
                names.add(method.getName());
            } else {
                check.is("private " + method, true, Modifier.isPrivate(method.getModifiers()));
            }
        }
        for (Field field : PuddleBoatyard.class.getDeclaredFields()) {
            int modifiers = field.getModifiers();
            check.is("private " + field, true, isPublic(modifiers) || Modifier.isPrivate(modifiers));
        }
        List<Class<?>> classes = new ArrayList<>(List.of(PuddleBoatyard.class.getDeclaredClasses()));
        classes.add(PuddleBoatyard.class);
        check.is("at most twelve classes", true, classes.size() <= 12);
        for (Class<?> type : classes) {
            long fields = Arrays.stream(type.getDeclaredFields()).filter(f -> !Modifier.isStatic(f.getModifiers())).count();
            check.is("at most twenty fields of " + type, true, fields <= 20);
            for (Method method : type.getDeclaredMethods()) {
                check.is("at most seven parameters: " + method, true, method.getParameterCount() <= 7);
                boolean ofFace = isPublic(method.getModifiers());
                check.is("a name of its own: " + method, ofFace, names.contains(method.getName()));
            }
        }
    }

    private static boolean isPublic(int modifiers) {
        return Modifier.isPublic(modifiers);
    }

    private static void language() throws IOException {
        String source = Files.readString(SOURCE).replaceAll("(?s)/\\*.*?\\*/", "").replaceAll("//[^\n]*", "");
        String[] banned = {"catch", "finally", "try {", "->", "::", "synchronized", "assert", "instanceof", "Exact(",
            "System.out", "java.io", "Random", "currentTime", "nanoTime", "static {", "package ", "protected", "\" +"};
        for (String word : banned) {
            check.is("no " + word, false, source.contains(word));
        }
        check.is("one import", "import java.util.NoSuchElementException;",
                String.join(" ", source.lines().filter(line -> line.startsWith("import")).toList()));
    }
}
