import java.io.IOException;
import java.nio.file.Files;
import java.nio.file.Path;
import java.util.TreeMap;
import java.util.function.Consumer;
import java.util.function.ToLongFunction;

/** Holds the class to the edges that the document names: each test tells the promise and the sentence that it holds. */
final class Edges {
    /** Far beyond every edge there is. */
    static final int[] FAR = {Integer.MIN_VALUE, Integer.MIN_VALUE + 1, -1000, 1000, 65536, Integer.MAX_VALUE};
    static final int THROWN = -99;

    private static final Path DOCUMENT = Path.of("..", "shared", "DOC.md");
    private static final int PROMISES = 42;
    private static final String BUSY_SHOP = "counter a at 1 gap 5;counter b at 4 gap 20;counter c at 2 gap 9;"
        + "ball p plain size 4 home a;ball q oak size 8 home c;ball r willow size 15 home b;"
        + "ball s cork size 30 home b;ball t plain size 3 home a;desk 3;damp 0 6 9;wears 1-(3<wet)*3+runs;";

    private final Due due = new Due();
    private final TreeMap<Integer, Integer> held = new TreeMap<>();
    private final String document;
    private String about = "";
    private int answers = 0;

    Edges() throws IOException {
        document = Files.exists(DOCUMENT) ? flat(Files.readString(DOCUMENT)) : null;
    }

    private static String flat(String text) {
        return text.replaceAll("\\s+", " ");
    }

    /** The answers from here on hold this sentence; it must stand so in the document. */
    void of(int promise, String name, String sentence) {
        close();
        about = "Promise " + promise + " (" + name + "), \"" + sentence + "\": ";
        held.merge(promise, 1, Integer::sum);
        if (document != null) {
            due.is(about + "stands in the document", document.contains(flat(sentence)), true);
            due.is(about + "is a promise of the document",
                document.contains("## Promise " + promise + ": " + name + " "), true);
        }
    }

    private void close() {
        if (!about.isEmpty() && answers < 2) {
            due.is(about + "answers", answers, 2);
        }
        answers = 0;
    }

    void is(String call, long got, long want) {
        answers++;
        due.is(about + call, got, want);
    }

    void is(String call, boolean got, boolean want) {
        is(call, got ? 1 : 0, want ? 1 : 0);
    }

    /**
     * Two objects live the same story, one of them is asked for what can't be: it must answer so, and both must be
     * alike then in all that can be asked.
     */
    void refused(String call, Consumer<CashBalls> story, ToLongFunction<CashBalls> ask, long want) {
        CashBalls asked = lived(story);
        CashBalls alone = lived(story);
        is(call, ask.applyAsLong(asked), want);
        String got = Look.at(asked);
        String wanted = Look.at(alone);
        is(call + " changes nothing", got.equals(wanted), true);
        if (!got.equals(wanted)) {
            System.out.println("  is  " + got + "\n  was " + wanted);
        }
    }

    /** A call that only asks: it answers so, and changes nothing. */
    void asks(String call, Consumer<CashBalls> story, ToLongFunction<CashBalls> ask, long want) {
        refused(call, story, ask, want);
    }

    static CashBalls lived(Consumer<CashBalls> story) {
        CashBalls x = new CashBalls();
        story.accept(x);
        return x;
    }

    /**
     * A shop at work on day 1, beat 4: t comes BACK, p is in the ROW, r is OUT, s is in the PIT, q rests at home; there
     * are a RUN, something SEEN, marks 1 and 2, ten to undo, and signs on the TAPE.
     */
    static void busy(CashBalls x) {
        busyUntold(x);
        Due.feed(x, "desk 5");
    }

    /** As busy, but for an empty TAPE. */
    static void busyUntold(CashBalls x) {
        Due.shop(x, BUSY_SHOP);
        Due.run(x, "send p;beat;day;carry q a;");
        x.mark(2, false);
        x.see(0, 2, true);
        x.set(2, 10);
        x.send(3);
        x.day();
        x.mark(1, false);
        x.send(4);
        x.beat();
        x.send(0);
        x.send(2);
        x.beat();
        x.beat();
        x.beat();
    }

    /** Six counters c0 to c5 at places 1 to 6 with gaps 10, 20 .. 60, and six plain balls that fall at home. */
    static String six() {
        StringBuilder text = new StringBuilder();
        for (int i = 0; i < 6; i++) {
            text.append("counter c").append((char) ('a' + i)).append(" at ").append(i + 1).append(" gap ")
                .append(10 * (i + 1)).append(';');
        }
        for (int i = 0; i < 6; i++) {
            text.append("ball b").append((char) ('a' + i)).append(" plain size ").append(10 * (i + 1))
                .append(" home c").append((char) ('a' + i)).append(';');
        }
        return text.toString();
    }

    static Consumer<CashBalls> shop(String text) {
        return x -> {
            int fault = Due.shop(x, text);
            if (fault != 0) {
                throw new IllegalStateException("the test's own shop has fault " + fault + ": " + text);
            }
        };
    }

    /** Every promise has an edge of its own. */
    void end() {
        close();
        for (int promise = 1; promise <= PROMISES; promise++) {
            due.is("promise " + promise + " has tests of its edges", held.containsKey(promise), true);
        }
        int sentences = held.values().stream().mapToInt(Integer::intValue).sum();
        System.out.println("  " + sentences + " edges named");
        due.end();
    }
}
