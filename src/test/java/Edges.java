import java.util.HashMap;
import java.util.HashSet;
import java.util.Map;
import java.util.Set;
import java.util.function.Supplier;

/**
 * Tests of what the document's sentences name: each test tells its sentence, which has to stand in the document,
 * and each sentence with a number or an exception has to have a test.
 */
final class Edges {
    static final Class<IndexOutOfBoundsException> INDEX = IndexOutOfBoundsException.class;
    static final Class<IllegalArgumentException> ARGUMENT = IllegalArgumentException.class;
    static final Class<IllegalStateException> STATE = IllegalStateException.class;
    static final Class<UnsupportedOperationException> REFUSED = UnsupportedOperationException.class;
    static final Class<java.util.NoSuchElementException> NO_ELEMENT = java.util.NoSuchElementException.class;

    static final String NO_HULL = "Throws `IndexOutOfBoundsException` if there is no such hull";

    interface Call {
        Object on(PuddleBoatyard yard);
    }

    interface NumberCall {
        Object on(PuddleBoatyard yard, int number);
    }

    private final Check check;
    private final int first;
    private final int last;
    private final Map<Integer, Set<String>> sentences = Document.sentences();
    private final Map<Integer, Set<String>> tested = new HashMap<>();
    private String place = "";

    /** Tests for the promises from the first to the last one; the Terms are number 0. */
    Edges(String test, int first, int last) {
        check = new Check(test);
        this.first = first;
        this.last = last;
    }

    void at(int promise, String sentence, Runnable test) {
        check.is(promise + " stands in the document: " + sentence, true,
                sentences.getOrDefault(promise, Set.of()).contains(sentence));
        tested.computeIfAbsent(promise, key -> new HashSet<>()).add(sentence);
        place = promise + " (" + sentence + ") ";
        test.run();
    }

    void end() {
        for (int promise = first; promise <= last; promise++) {
            for (String sentence : sentences.getOrDefault(promise, Set.of())) {
                if (Document.namesAnEdge(sentence)) {
                    check.is(promise + " has a test: " + sentence, true,
                            tested.getOrDefault(promise, Set.of()).contains(sentence));
                }
            }
        }
        check.end();
    }

    void is(String what, Object want, Object got) {
        check.is(place + what, want, got);
    }

    /** The call throws this, and leaves the boatyard as another one like it on which nothing was called. */
    void refuses(Class<? extends RuntimeException> want, Supplier<PuddleBoatyard> maker, Call call) {
        PuddleBoatyard yard = maker.get();
        is("refused", "throws " + want.getSimpleName(), Check.outcome(() -> call.on(yard)));
        same("refused, and changed nothing", Yards.everything(maker.get()), Yards.everything(yard));
    }

    /** Texts of many lines, of which only the first ones that differ are told. */
    void same(String what, String want, String got) {
        String[] wanted = want.split("\n");
        String[] gotten = got.split("\n");
        int line = 0;
        while (line < Math.min(wanted.length, gotten.length) - 1 && wanted[line].equals(gotten[line])) {
            line++;
        }
        is(what + ", line " + line, wanted[line], gotten[line]);
        is(what + ", lines", wanted.length, gotten.length);
    }

    /** Refused for the two numbers next to the range, and for the ones that are farthest from it. */
    void refusesOutside(int least, int most, Class<? extends RuntimeException> want,
            Supplier<PuddleBoatyard> maker, NumberCall call) {
        for (int number : new int[] {least - 1, most + 1, Integer.MIN_VALUE, Integer.MAX_VALUE}) {
            refuses(want, maker, yard -> call.on(yard, number));
        }
    }

    void allows(Supplier<PuddleBoatyard> maker, Call call) {
        Object outcome = Check.outcome(() -> call.on(maker.get()));
        is("allowed, but " + outcome, false, outcome.toString().startsWith("throws"));
    }

    /** Both ends of a range are allowed, and what lies outside is refused. */
    void range(int least, int most, Class<? extends RuntimeException> want, Supplier<PuddleBoatyard> maker,
            NumberCall call) {
        allows(maker, yard -> call.on(yard, least));
        allows(maker, yard -> call.on(yard, most));
        refusesOutside(least, most, want, maker, call);
    }

    /** The hulls of a call: 0 to 5 of six, none of none, and no more than were begun. */
    void hulls(int promise, String sentence, Supplier<PuddleBoatyard> six, NumberCall call) {
        at(promise, sentence, () -> {
            range(0, 5, INDEX, six, call);
            refuses(INDEX, PuddleBoatyard::new, yard -> call.on(yard, 0));
            for (int count = 1; count < 6; count++) {
                int begun = count;
                refuses(INDEX, () -> Yards.withHulls(new int[begun]), yard -> call.on(yard, begun));
            }
        });
    }

    /** A call that is allowed for hulls in some of the four states only, all else being well. */
    void states(String allowed, Supplier<PuddleBoatyard> allStates, NumberCall call) {
        for (int state = 0; state < 4; state++) {
            int hull = state;
            if (allowed.indexOf("bads".charAt(state)) >= 0) {
                allows(allStates, yard -> call.on(yard, hull));
            } else {
                refuses(STATE, allStates, yard -> call.on(yard, hull));
            }
        }
    }
}
