import java.io.IOException;
import java.io.UncheckedIOException;
import java.nio.file.Files;
import java.nio.file.Path;
import java.util.LinkedHashSet;
import java.util.Map;
import java.util.Set;
import java.util.TreeMap;
import java.util.regex.Matcher;
import java.util.regex.Pattern;

/** The sentences of the document: those of its Terms under 0, those of each promise under its number. */
final class Document {
    static final int TERMS = 0;
    static final Path PATH = Path.of("../shared/DOC.md");
    private static final int NOWHERE = -1;
    private static final Pattern PROMISE = Pattern.compile("## Promise (\\d+):.*");
    private static final Pattern SIGNATURE = Pattern.compile("`[^`]*`: (.*)");

    private Document() {
    }

    static Map<Integer, Set<String>> sentences() {
        Map<Integer, Set<String>> sentences = new TreeMap<>();
        int part = NOWHERE;
        for (String line : lines()) {
            if (line.startsWith("## ")) {
                part = partOf(line);
            } else if (part != NOWHERE) {
                for (String sentence : withoutSignature(part, line.trim()).split("(?<=\\.) ")) {
                    sentences.computeIfAbsent(part, key -> new LinkedHashSet<>()).add(sentence);
                }
            }
        }
        return sentences;
    }

    private static Iterable<String> lines() {
        try {
            return Files.readAllLines(PATH);
        } catch (IOException e) {
            throw new UncheckedIOException(e);
        }
    }

    private static int partOf(String heading) {
        Matcher promise = PROMISE.matcher(heading);
        if (promise.matches()) {
            return Integer.parseInt(promise.group(1));
        }
        return heading.equals("## Terms") ? TERMS : NOWHERE;
    }

    private static String withoutSignature(int part, String line) {
        Matcher signature = SIGNATURE.matcher(line);
        return part != TERMS && signature.matches() ? signature.group(1) : line;
    }

    /** Sentences that tell an exception, or a number: these are the ones that can name an edge by themselves. */
    static boolean namesAnEdge(String sentence) {
        return sentence.startsWith("Throws") || sentence.matches(".*\\d.*");
    }
}
