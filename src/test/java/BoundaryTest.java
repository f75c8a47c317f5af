import java.lang.reflect.Method;
import java.util.ArrayList;
import java.util.HashMap;
import java.util.List;
import java.util.Map;
import java.util.regex.Matcher;
import java.util.regex.Pattern;

/**
 * Each sentence of the document that names a boundary case, with runs of its own.
 *
 * <p>A row of a run is a call with the answer that is due: {@code feed(0, 3, 5) = 1}. A number and
 * an x before it repeat the call, and {@code = 1 .. 40} lets the answers go from 1 to 40. A call
 * without an answer prepares the run, and must not be refused. An empty row begins a new object.
 */
public final class BoundaryTest {
    private static final int MOST_CALLS = 512;
    private static final Pattern ROW =
        Pattern.compile("(?:(\\d+) x )?(\\w+)\\(([^)]*)\\)(?: = (-?\\d+)(?: \\.\\. (-?\\d+))?)?");
    private static final Map<String, Method> METHODS = methods();
    private static final String[] BAD_STREAMS = {"-1", "2", "16", "MIN", "MAX"};
    private static final String[] BAD_KEYS = {"-1", "16", "17", "MIN", "MAX"};
    private static final String[] BAD_VALUES = {"-51", "51", "MIN", "MAX"};
    private static final String[] BAD_BANDS = {"-1", "4", "MIN", "MAX"};

    private static int entries = 0;
    private static int wrong = 0;
    private static String sentence = "";

    private BoundaryTest() {
    }

    public static void main(String[] args) {
        aboutTheObject();
        termsOfStreamsAndKeys();
        termsOfTuples();
        termsOfClosing();
        termsOfPairs();
        termsOfFinishing();
        termsOfResults();
        termsOfBands();
        termsOfQuestions();
        termsOfRefusedCalls();
        termsOfTheOrderOfTests();
        promise1NewObject();
        promise2Feed();
        promise3Retract();
        promise4Close();
        promise5Held();
        promise6HeldWith();
        promise7Closed();
        promise8Results();
        promise9ResultKey();
        promise10ResultPairs();
        promise11ResultSum();
        promise12ResultLeast();
        promise13ResultGreatest();
        promise14Pairs();
        promise15Sum();
        promise16Least();
        promise17Greatest();
        promise18PairsFrom();
        promise19BandsFinished();
        promise20BandSum();
        System.out.println(entries + " sentences or single cases of one, " + (wrong == 0 ? "all answers are as due" : wrong + " answers are not as due"));
        if (wrong != 0) {
            System.exit(1);
        }
    }

    // ---- The runs of rows.

    /** An object with the number of calls made on it, which the document bounds. */
    private static final class Run {
        private final PunctuatedQuery query = new PunctuatedQuery();
        private int calls = 0;

        int call(String name, int[] arguments) {
            calls++;
            if (calls > MOST_CALLS) {
                fault("the test makes more than " + MOST_CALLS + " calls on one object");
            }
            Object[] boxed = new Object[arguments.length];
            for (int i = 0; i < boxed.length; i++) {
                boxed[i] = arguments[i];
            }
            try {
                return (Integer) METHODS.get(name).invoke(query, boxed);
            } catch (ReflectiveOperationException | IllegalArgumentException e) {
                throw new IllegalStateException(sentence + ": " + name, e);
            }
        }

        void row(String row) {
            Matcher m = ROW.matcher(row);
            if (!m.matches() || !METHODS.containsKey(m.group(2))) {
                throw new IllegalStateException(sentence + ": no row of a run: " + row);
            }
            int times = m.group(1) == null ? 1 : Integer.parseInt(m.group(1));
            int[] arguments = numbers(m.group(3));
            for (int n = 0; n < times; n++) {
                int got = call(m.group(2), arguments);
                if (m.group(4) == null) {
                    notRefused(row, got);
                } else {
                    due(row, calls, got, answerDue(m.group(4), m.group(5), n));
                }
            }
        }
    }

    /** The answer due to the n-th repetition, with from .. to written in the row. */
    private static int answerDue(String from, String to, int n) {
        int first = Integer.parseInt(from);
        return to == null ? first : first + n * Integer.signum(Integer.parseInt(to) - first);
    }

    private static Map<String, Method> methods() {
        Map<String, Method> byName = new HashMap<>();
        for (Method method : PunctuatedQuery.class.getMethods()) {
            if (method.getDeclaringClass() == PunctuatedQuery.class) {
                byName.put(method.getName(), method);
            }
        }
        return byName;
    }

    private static int[] numbers(String list) {
        if (list.isBlank()) {
            return new int[0];
        }
        String[] parts = list.split(",");
        int[] all = new int[parts.length];
        for (int i = 0; i < all.length; i++) {
            String part = parts[i].trim();
            all[i] = part.equals("MIN") ? Integer.MIN_VALUE : part.equals("MAX") ? Integer.MAX_VALUE : Integer.parseInt(part);
        }
        return all;
    }

    private static void fault(String text) {
        wrong++;
        System.out.println(sentence + "\n    " + text);
    }

    private static void due(String row, int call, int got, int want) {
        if (got != want) {
            fault("call " + call + ", " + row + ": answered " + got + ", due is " + want);
        }
    }

    private static void notRefused(String row, int got) {
        if (got < 0) {
            fault(row + ": refused with " + got);
        }
    }

    /** The sentence that the runs below it are for; brackets name the one case of it that they show. */
    private static void sentence(String words) {
        sentence = words;
        entries++;
    }

    private static Run run(String rows) {
        Run run = new Run();
        for (String row : rows.split("\n")) {
            if (row.isBlank()) {
                run = new Run();
            } else {
                run.row(row.trim());
            }
        }
        return run;
    }

    /** The run with s for each of the two streams, and t for the other one. */
    private static void runOnEachStream(String rows) {
        for (int s = 0; s < 2; s++) {
            run(rows.replaceAll("\\bs\\b", "" + s).replaceAll("\\bt\\b", "" + (1 - s)));
        }
    }

    /** The run with k for each of the keys. */
    private static void runWithEachKey(String rows) {
        for (int k = 0; k < 16; k++) {
            runOnEachStream(rows.replaceAll("\\bk\\b", "" + k));
        }
    }

    /** The run with b for each of the given wrong arguments. */
    private static void runWithEach(String[] bad, String rows) {
        for (String b : bad) {
            runOnEachStream(rows.replaceAll("\\bb\\b", b));
        }
    }

    private static String repeated(String rows, int from, int to) {
        StringBuilder all = new StringBuilder();
        for (int n = from; n <= to; n++) {
            all.append(rows.replaceAll("\\bn\\b", "" + n));
        }
        return all.toString();
    }

    // ---- What it is, and terms.

    private static void aboutTheObject() {
        sentence("What it is: An object is used for at most 512 calls after it has been made.");
        run(repeated("feed(1, 15, 50) = 1\nretract(1, 15, 50) = 0\n", 1, 253) + """
            feed(1, 15, 50) = 1
            feed(0, 15, 50) = 1
            close(0, 15, 15) = 0
            close(1, 15, 15) = 1
            resultSum(0) = 2500
            held(1) = 0
            """);
    }

    private static void termsOfStreamsAndKeys() {
        sentence("Terms: There are two streams, 0 and 1, and the keys 0 .. 15.");
        runWithEachKey("""
            feed(s, k, 7) = 1
            heldWith(s, k) = 1
            heldWith(t, k) = 0
            feed(t, k, -3) = 1
            pairs(k) = 1
            sum(k) = -21
            retract(t, k, -3) = 0
            close(s, k, k) = 0
            closed(s, k) = 1
            closed(t, k) = 0
            """);

        sentence("Terms: a stream is good if it is 0 or 1.");
        for (String b : BAD_STREAMS) {
            run("""
                feed(b, 0, 0) = -1
                retract(b, 0, 0) = -1
                close(b, 0, 15) = -1
                held(b) = -1
                heldWith(b, 0) = -1
                closed(b, 0) = -1
                """.replace("b", b));
        }
        runOnEachStream("""
            feed(s, 0, 0) = 1
            held(s) = 1
            heldWith(s, 0) = 1
            closed(s, 0) = 0
            retract(s, 0, 0) = 0
            close(s, 0, 15) = 0
            """);

        sentence("Terms: a key is good if it is 0 .. 15.");
        runWithEach(BAD_KEYS, """
            feed(s, b, 0) = -2
            retract(s, b, 0) = -2
            close(s, b, b) = -2
            heldWith(s, b) = -2
            closed(s, b) = -2
            pairs(b) = -1
            sum(b) = 0
            least(b) = 10000
            greatest(b) = -10000
            """);
        runOnEachStream("""
            feed(s, 0, 1) = 1
            feed(s, 15, 1) = 2
            heldWith(s, 0) = 1
            heldWith(s, 15) = 1
            closed(s, 0) = 0
            closed(s, 15) = 0
            pairs(0) = 0
            pairs(15) = 0
            close(s, 0, 0) = 0
            close(s, 15, 15) = 0
            """);
    }

    private static void termsOfTuples() {
        sentence("Terms: A tuple on a stream has a key and a value -50 .. 50.");
        for (int value = -50; value <= 50; value++) {
            runOnEachStream("""
                feed(s, 9, v) = 1
                feed(t, 9, 1) = 1
                sum(9) = v
                least(9) = v
                greatest(9) = v
                pairsFrom(v) = 1
                retract(s, 9, v) = 0
                """.replace("v", "" + value));
        }

        sentence("Terms: At most 40 tuples are held on each stream.");
        runOnEachStream("""
            40 x feed(s, 0, 1) = 1 .. 40
            3 x feed(s, 0, 1) = -5
            held(s) = 40
            held(t) = 0
            40 x feed(t, 0, 1) = 1 .. 40
            3 x feed(t, 0, 1) = -5
            held(s) = 40
            held(t) = 40
            pairs(0) = 1600
            """);
        sentence("Terms: At most 40 tuples are held on each stream (whatever their keys are).");
        runOnEachStream(repeated("feed(s, n, n)\n", 0, 15) + """
            held(s) = 16
            24 x feed(s, 5, 5) = 17 .. 40
            feed(s, 0, 0) = -5
            feed(s, 15, 0) = -5
            """);
    }

    private static void termsOfClosing() {
        sentence("Terms: A key may be closed on a stream: then no more tuples with that key come on that stream.");
        runWithEachKey("""
            feed(s, k, 1) = 1
            close(s, k, k) = 0
            2 x feed(s, k, 1) = -4
            heldWith(s, k) = 1
            feed(t, k, 1) = 1
            pairs(k) = 1
            """);
        sentence("Terms: A key may be closed on a stream (its neighbours are not closed by that).");
        runOnEachStream("""
            close(s, 7, 7) = 0
            feed(s, 6, 1) = 1
            feed(s, 7, 1) = -4
            feed(s, 8, 1) = 2
            closed(s, 6) = 0
            closed(s, 8) = 0
            """);

        sentence("Terms: No key is closed at first.");
        runWithEachKey("""
            closed(s, k) = 0
            feed(s, k, 0) = 1
            """);
    }

    private static void termsOfPairs() {
        sentence("Terms: The pairs of a key are all pairs of a held tuple of stream 0 and a held tuple of stream 1 with that key.");
        runOnEachStream("""
            2 x feed(s, 3, 1)
            pairs(3) = 0
            3 x feed(t, 3, 1)
            pairs(3) = 6
            feed(t, 2, 1)
            feed(t, 4, 1)
            pairs(2) = 0
            pairs(3) = 6
            pairs(4) = 0
            retract(s, 3, 1) = 1
            pairs(3) = 3
            retract(s, 3, 1) = 0
            pairs(3) = 0
            """);

        sentence("Terms: the product of a pair is the product of the two values.");
        runOnEachStream("""
            feed(s, 0, -50)
            feed(t, 0, -50)
            sum(0) = 2500

            feed(s, 0, -50)
            feed(t, 0, 50)
            sum(0) = -2500

            feed(s, 0, 50)
            feed(t, 0, 50)
            sum(0) = 2500

            feed(s, 0, 0)
            feed(t, 0, -50)
            sum(0) = 0
            pairs(0) = 1
            """);

        sentence("Terms: Equal tuples are tuples of their own.");
        runOnEachStream("""
            3 x feed(s, 6, -4) = 1 .. 3
            2 x feed(t, 6, -4) = 1 .. 2
            heldWith(s, 6) = 3
            pairs(6) = 6
            sum(6) = 96
            pairsFrom(16) = 6
            retract(s, 6, -4) = 2
            heldWith(s, 6) = 2
            heldWith(t, 6) = 2
            pairs(6) = 4
            """);
    }

    private static void termsOfFinishing() {
        sentence("Terms: When a key becomes closed on both streams, it is finished (not when it is closed on one).");
        runWithEachKey("""
            feed(s, k, 2)
            feed(t, k, 3)
            2 x close(s, k, k) = 0
            results() = 0
            held(s) = 1
            held(t) = 1
            close(t, k, k) = 1
            results() = 1
            held(s) = 0
            held(t) = 0
            """);

        sentence("Terms: if it has at least one pair, one result is put at the end of the results.");
        runOnEachStream("""
            feed(s, 4, 0)
            feed(t, 4, 0)
            close(s, 4, 4) = 0
            close(t, 4, 4) = 1
            results() = 1
            resultKey(0) = 4
            resultPairs(0) = 1
            """);
        sentence("Terms: if it has at least one pair (no result for a key without a pair).");
        runOnEachStream("""
            close(s, 4, 4) = 0
            close(t, 4, 4) = 1
            results() = 0

            2 x feed(s, 4, 5)
            close(s, 4, 4) = 0
            close(t, 4, 4) = 1
            results() = 0

            2 x feed(s, 4, 5)
            close(t, 4, 4) = 0
            close(s, 4, 4) = 1
            results() = 0

            feed(s, 4, 5)
            feed(t, 4, 5)
            retract(t, 4, 5) = 0
            close(s, 4, 4) = 0
            close(t, 4, 4) = 1
            results() = 0
            """);
        sentence("Terms: one result, with the key, the number of its pairs, and the sum, the least and the greatest of their products.");
        runOnEachStream("""
            40 x feed(s, 11, 50)
            40 x feed(t, 11, 50)
            close(s, 0, 15) = 0
            close(t, 0, 15) = 16
            results() = 1
            resultKey(0) = 11
            resultPairs(0) = 1600
            resultSum(0) = 4000000
            resultLeast(0) = 2500
            resultGreatest(0) = 2500
            """);
        sentence("Terms: its products are those of the tuples held when it becomes closed on both streams.");
        runOnEachStream("""
            feed(s, 5, -50)
            feed(s, 5, 2)
            feed(t, 5, 50)
            close(s, 5, 5) = 0
            feed(t, 5, 3)
            retract(s, 5, -50) = 1
            retract(t, 5, 50) = 1
            close(t, 5, 5) = 1
            resultPairs(0) = 1
            resultSum(0) = 6
            resultLeast(0) = 6
            resultGreatest(0) = 6
            """);

        sentence("Terms: in any case all its tuples on both streams are held no more.");
        runOnEachStream("""
            40 x feed(s, 12, 1)
            close(s, 12, 12) = 0
            close(t, 12, 12) = 1
            held(s) = 0
            heldWith(s, 12) = 0
            retract(s, 12, 1) = -3
            40 x feed(s, 13, 1) = 1 .. 40
            feed(s, 13, 1) = -5

            feed(s, 12, 1)
            feed(s, 13, 2)
            feed(s, 12, 3)
            feed(s, 11, 4)
            feed(s, 12, 5)
            feed(t, 12, 6)
            feed(t, 13, 7)
            close(s, 12, 12) = 0
            close(t, 12, 12) = 1
            held(s) = 2
            held(t) = 1
            sum(13) = 14
            retract(s, 12, 1) = -3
            retract(s, 12, 3) = -3
            retract(s, 12, 5) = -3
            retract(t, 12, 6) = -3
            retract(s, 11, 4) = 1
            retract(s, 13, 2) = 0
            retract(t, 13, 7) = 0
            """);
    }

    private static void termsOfResults() {
        sentence("Terms: Results are numbered 0, 1, 2, ..");
        run("""
            feed(0, 2, 1)
            feed(1, 2, 1)
            feed(0, 0, 1)
            feed(1, 0, 1)
            feed(0, 1, 1)
            feed(1, 1, 1)
            close(0, 0, 15)
            close(1, 2, 2) = 1
            results() = 1
            close(1, 3, 3) = 1
            results() = 1
            close(1, 0, 0) = 1
            results() = 2
            close(1, 1, 1) = 1
            results() = 3
            resultKey(0) = 2
            resultKey(1) = 0
            resultKey(2) = 1
            resultKey(3) = -1
            """);

        sentence("Terms: Results stay.");
        run("""
            feed(0, 15, -6)
            feed(0, 15, 2)
            feed(1, 15, 3)
            close(0, 15, 15) = 0
            close(1, 15, 15) = 1
            40 x feed(0, 0, 9)
            40 x feed(1, 0, 9)
            feed(0, 15, 9) = -4
            retract(0, 15, 2) = -3
            close(1, 0, 15) = 0
            close(0, 0, 15) = 15
            close(1, 0, 15) = 0
            close(0, 15, 15) = 0
            results() = 2
            resultKey(0) = 15
            resultPairs(0) = 2
            resultSum(0) = -12
            resultLeast(0) = -18
            resultGreatest(0) = 6
            resultKey(1) = 0
            resultPairs(1) = 1600
            resultSum(1) = 129600
            """);
    }

    private static void termsOfBands() {
        sentence("Terms: band g has the keys 4*g .. 4*g + 3.");
        for (int band = 0; band < 4; band++) {
            String keys = 4 * band + ", " + (4 * band + 3);
            Run run = run("close(0, " + keys + ") = 0\nclose(1, " + keys + ") = 4\nbandsFinished() = 1\n");
            for (int other = 0; other < 4; other++) {
                run.row("bandSum(" + other + ") = " + (other == band ? 0 : -2000000));
            }
        }

        sentence("Terms: A band is finished if all its keys are (one key that lacks, on one stream, is enough against it).");
        for (int key = 0; key < 16; key++) {
            runOnEachStream("close(s, 0, 15) = 0\n"
                + (key > 0 ? "close(t, 0, " + (key - 1) + ")\n" : "")
                + (key < 15 ? "close(t, " + (key + 1) + ", 15)\n" : "")
                + "bandsFinished() = 3\n"
                + "bandSum(" + key / 4 + ") = -2000000\n"
                + "close(t, " + key + ", " + key + ") = 1\n"
                + "bandsFinished() = 4\n"
                + "bandSum(" + key / 4 + ") = 0\n");
        }
    }

    // ---- No question changes anything, a refused call changes nothing: both are seen by a second
    // object that is led the same way without the call.

    private static final String[] QUESTIONS = {
        "held(s)", "heldWith(s, k)", "closed(s, k)", "results()", "resultKey(i)", "resultPairs(i)", "resultSum(i)",
        "resultLeast(i)", "resultGreatest(i)", "pairs(k)", "sum(k)", "least(k)", "greatest(k)", "pairsFrom(v)",
        "bandsFinished()", "bandSum(g)"};

    private static final String SOME_HELD = """
        feed(0, 0, -4)
        feed(0, 0, 3)
        feed(1, 0, 5)
        feed(1, 0, 0)
        feed(0, 15, 6)
        feed(1, 14, 6)
        close(0, 13, 14)
        close(1, 15, 15)
        """;
    private static final String SOME_FINISHED = """
        feed(0, 2, -4)
        feed(1, 2, 3)
        feed(0, 9, 5)
        feed(1, 9, 7)
        close(0, 1, 6)
        close(1, 2, 7)
        feed(0, 0, 8)
        feed(1, 0, 8)
        """;
    private static final String FULL = """
        39 x feed(0, 0, 3)
        feed(0, 1, 5)
        39 x feed(1, 0, 5)
        feed(1, 2, 6)
        close(0, 1, 1)
        """;
    private static final String ALL_FINISHED = """
        feed(0, 0, 3)
        feed(1, 0, 5)
        feed(0, 15, 3)
        feed(1, 15, 5)
        close(0, 0, 15)
        close(1, 0, 15)
        """;
    private static final String[] STATES = {"", SOME_HELD, SOME_FINISHED, FULL, ALL_FINISHED};

    private static List<String> withEach(List<String> rows, String letter, String... numbers) {
        List<String> all = new ArrayList<>();
        for (String row : rows) {
            if (!row.matches(".*\\b" + letter + "\\b.*")) {
                all.add(row);
                continue;
            }
            for (String number : numbers) {
                all.add(row.replaceAll("\\b" + letter + "\\b", number));
            }
        }
        return all;
    }

    private static List<String> questions(String[] s, String[] k, String[] i, String[] v, String[] g) {
        List<String> rows = withEach(List.of(QUESTIONS), "s", s);
        rows = withEach(rows, "k", k);
        rows = withEach(rows, "i", i);
        rows = withEach(rows, "v", v);
        return withEach(rows, "g", g);
    }

    private static String answers(Run run, List<String> calls) {
        StringBuilder text = new StringBuilder();
        for (String call : calls) {
            int open = call.indexOf('(');
            int[] arguments = numbers(call.substring(open + 1, call.length() - 1));
            text.append(call).append(" = ").append(run.call(call.substring(0, open), arguments)).append('\n');
        }
        return text.toString();
    }

    /** All that can be seen of the object, at first by questions, then by how it goes on. */
    private static String seen(Run run) {
        String[] keys = {"0", "1", "2", "7", "9", "13", "14", "15"};
        String[] results = {"0", "1", "2"};
        List<String> questions = questions(new String[] {"0", "1"}, keys, results, new String[] {"MIN", "1"}, new String[] {"0", "1", "3"});
        List<String> further = withEach(withEach(List.of("feed(s, k, 2)", "retract(s, 0, 3)", "retract(s, 0, 5)", "retract(s, 0, 8)"),
            "s", "0", "1"), "k", keys);
        List<String> end = new ArrayList<>(List.of("close(0, 0, 15)", "close(1, 0, 15)"));
        end.addAll(questions);
        return answers(run, questions) + answers(run, further) + answers(run, end);
    }

    private static void dueNoChange(String state, String call) {
        Run changed = run(state);
        answers(changed, List.of(call, call));
        String[] got = seen(changed).split("\n");
        String[] want = seen(run(state)).split("\n");
        for (int n = 0; n < want.length; n++) {
            if (!got[n].equals(want[n])) {
                fault("after " + call + ": " + got[n] + ", due is " + want[n]);
                return;
            }
        }
    }

    private static void termsOfQuestions() {
        sentence("Terms: No question changes anything.");
        String[] keys = {"-1", "0", "2", "15", "16", "MIN", "MAX"};
        List<String> calls = questions(new String[] {"-1", "0", "1", "2"}, keys, new String[] {"-1", "0", "1", "2", "16"},
            new String[] {"MIN", "-12", "0", "MAX"}, new String[] {"-1", "0", "1", "3", "4"});
        for (String state : STATES) {
            for (String call : calls) {
                dueNoChange(state, call);
            }
        }
    }

    private static void dueRefused(String state, String call, int answer) {
        run(state + call + " = " + answer);
        dueNoChange(state, call);
    }

    private static void termsOfRefusedCalls() {
        sentence("Terms: A refused call changes nothing (feed).");
        for (String state : STATES) {
            for (String call : withEach(List.of("feed(b, 0, 3)"), "b", BAD_STREAMS)) {
                dueRefused(state, call, -1);
            }
            for (String call : withEach(List.of("feed(0, b, 3)", "feed(1, b, 3)"), "b", BAD_KEYS)) {
                dueRefused(state, call, -2);
            }
            for (String call : withEach(List.of("feed(0, 0, b)", "feed(1, 0, b)", "feed(0, 15, b)"), "b", BAD_VALUES)) {
                dueRefused(state, call, -3);
            }
        }
        dueRefused(SOME_HELD, "feed(0, 14, 6)", -4);
        dueRefused(SOME_HELD, "feed(1, 15, 6)", -4);
        dueRefused(SOME_FINISHED, "feed(0, 2, 6)", -4);
        dueRefused(SOME_FINISHED, "feed(1, 2, 6)", -4);
        dueRefused(FULL, "feed(0, 1, 6)", -4);
        dueRefused(FULL, "feed(0, 0, 3)", -5);
        dueRefused(FULL, "feed(1, 15, 3)", -5);

        sentence("Terms: A refused call changes nothing (retract).");
        for (String state : STATES) {
            for (String call : withEach(List.of("retract(b, 0, 3)"), "b", BAD_STREAMS)) {
                dueRefused(state, call, -1);
            }
            for (String call : withEach(List.of("retract(0, b, 3)", "retract(1, b, 5)"), "b", BAD_KEYS)) {
                dueRefused(state, call, -2);
            }
            for (String call : withEach(List.of("retract(0, 0, b)", "retract(1, 0, b)", "retract(0, 7, b)"), "b", "4", "-51", "51", "MIN", "MAX")) {
                dueRefused(state, call, -3);
            }
        }
        dueRefused(SOME_HELD, "retract(0, 0, 5)", -3);
        dueRefused(SOME_FINISHED, "retract(0, 2, -4)", -3);
        dueRefused(FULL, "retract(1, 0, 3)", -3);

        sentence("Terms: A refused call changes nothing (close).");
        for (String state : STATES) {
            for (String call : withEach(List.of("close(b, 0, 15)", "close(b, 14, 15)"), "b", BAD_STREAMS)) {
                dueRefused(state, call, -1);
            }
            for (String call : withEach(withEach(List.of("close(s, r)"), "s", "0", "1"), "r",
                "-1, 15", "0, 16", "-1, -1", "16, 16", "1, 0", "15, 0", "15, 14", "MIN, 15", "0, MAX", "MIN, MAX", "MAX, MIN")) {
                dueRefused(state, call, -2);
            }
        }
    }

    private static void termsOfTheOrderOfTests() {
        sentence("Terms: In every method the tests are made in the order named (feed).");
        runOnEachStream("""
            feed(2, 16, 51) = -1
            feed(-1, -1, 0) = -1
            feed(2, 0, 51) = -1
            feed(s, 16, 51) = -2
            feed(s, -1, -51) = -2
            close(s, 3, 3) = 0
            feed(2, 3, 0) = -1
            feed(s, 3, 51) = -3
            feed(s, 3, -51) = -3
            40 x feed(s, 4, 0) = 1 .. 40
            feed(2, 4, 0) = -1
            feed(s, 16, 0) = -2
            feed(s, 4, 51) = -3
            feed(s, 4, -51) = -3
            feed(s, 3, 51) = -3
            feed(s, 3, 0) = -4
            feed(s, 4, 0) = -5
            """);
        sentence("Terms: In every method the tests are made in the order named (retract).");
        runOnEachStream("""
            retract(2, 16, 51) = -1
            retract(-1, 0, 0) = -1
            retract(s, 16, 51) = -2
            retract(s, -1, 0) = -2
            retract(s, 0, 51) = -3
            """);
        sentence("Terms: In every method the tests are made in the order named (close).");
        runOnEachStream("""
            close(2, 1, 0) = -1
            close(-1, -1, 15) = -1
            close(2, 0, 16) = -1
            close(s, 1, 0) = -2
            """);
        sentence("Terms: In every method the tests are made in the order named (heldWith, closed).");
        runWithEach(BAD_STREAMS, """
            heldWith(b, 16) = -1
            heldWith(b, -1) = -1
            closed(b, 16) = -1
            closed(b, -1) = -1
            """);
        sentence("Terms: In every method the tests are made in the order named (bandSum).");
        runWithEach(BAD_BANDS, """
            bandSum(b) = -1000000
            close(0, 0, 15) = 0
            close(1, 0, 15) = 16
            bandSum(b) = -1000000
            """);
    }

    // ---- The promises.

    private static void promise1NewObject() {
        sentence("Promise 1: No tuples at first.");
        runWithEachKey("""
            held(s) = 0
            heldWith(s, k) = 0
            retract(s, k, 0) = -3
            pairs(k) = 0
            sum(k) = 0
            least(k) = 10000
            greatest(k) = -10000
            pairsFrom(MIN) = 0
            feed(s, k, 0) = 1
            """);

        sentence("Promise 1: No results at first.");
        run("""
            results() = 0
            resultKey(0) = -1
            resultPairs(0) = -1
            resultSum(0) = 0
            resultLeast(0) = 0
            resultGreatest(0) = 0
            bandsFinished() = 0
            """);
        sentence("Promise 1: No tuples and no results at first (whatever came to another object).");
        run(FULL + "close(0, 0, 15)\nclose(1, 0, 15)\n\n" + """
            held(0) = 0
            held(1) = 0
            results() = 0
            bandsFinished() = 0
            feed(0, 0, 1) = 1
            """);
    }

    private static void promise2Feed() {
        sentence("Promise 2: -1 if stream is not good.");
        runWithEach(BAD_STREAMS, "feed(b, 0, 0) = -1\nfeed(b, 15, 50) = -1\nfeed(s, 15, 50) = 1\n");

        sentence("Promise 2: -2 if key is not good.");
        runWithEach(BAD_KEYS, "feed(s, b, 0) = -2\nfeed(s, b, 50) = -2\nfeed(s, 0, 0) = 1\nfeed(s, 15, 0) = 2\n");

        sentence("Promise 2: -3 if value is not in -50 .. 50.");
        runWithEach(BAD_VALUES, "feed(s, 0, b) = -3\nfeed(s, 15, b) = -3\nfeed(s, 0, -50) = 1\nfeed(s, 15, 50) = 2\n");

        sentence("Promise 2: -4 if the key is closed on the stream.");
        runWithEachKey("""
            close(s, k, k) = 0
            feed(s, k, 0) = -4
            feed(t, k, 0) = 1
            close(t, k, k) = 1
            feed(s, k, 0) = -4
            feed(t, k, 0) = -4
            """);
        sentence("Promise 2: -4 if the key is closed on the stream (first and last of the closed ones).");
        runOnEachStream("""
            close(s, 5, 9) = 0
            feed(s, 4, 0) = 1
            feed(s, 5, 0) = -4
            feed(s, 9, 0) = -4
            feed(s, 10, 0) = 2
            """);

        sentence("Promise 2: -5 if the stream holds 40 tuples.");
        runOnEachStream("""
            39 x feed(s, 1, 1)
            feed(s, 1, 1) = 40
            feed(s, 1, 1) = -5
            feed(s, 2, -1) = -5
            feed(t, 1, 1) = 1
            retract(s, 1, 1) = 39
            feed(s, 2, 1) = 40
            feed(s, 2, 1) = -5
            close(s, 1, 1) = 0
            feed(s, 2, 1) = -5
            close(t, 2, 2) = 0
            feed(s, 2, 1) = -5
            close(s, 2, 2) = 1
            feed(s, 3, 1) = 40
            feed(s, 3, 1) = -5
            """);

        sentence("Promise 2: otherwise answers how many it holds now.");
        runOnEachStream("""
            40 x feed(s, 15, -50) = 1 .. 40
            feed(t, 15, -50) = 1
            2 x retract(s, 15, -50) = 39 .. 38
            feed(s, 0, 50) = 39
            close(s, 15, 15) = 0
            close(t, 15, 15) = 1
            feed(s, 0, 50) = 2
            """);
    }

    private static void promise3Retract() {
        sentence("Promise 3: One held tuple with this key and value on the stream is taken back.");
        runOnEachStream("""
            feed(s, 1, -50)
            feed(s, 1, 50)
            feed(s, 2, -50)
            feed(t, 1, -50)
            feed(s, 1, -50)
            retract(s, 1, -50) = 3
            heldWith(s, 1) = 2
            heldWith(s, 2) = 1
            heldWith(t, 1) = 1
            sum(1) = 0
            retract(s, 1, 50) = 2
            sum(1) = 2500
            retract(s, 2, -50) = 1
            retract(s, 1, -50) = 0
            heldWith(t, 1) = 1
            """);
        sentence("Promise 3: One held tuple is taken back (first, middle and last of a full stream).");
        runOnEachStream(repeated("feed(s, 3, n)\n", -20, 19) + """
            feed(t, 3, 1)
            sum(3) = -20
            retract(s, 3, -20) = 39
            sum(3) = 0
            least(3) = -19
            retract(s, 3, 19) = 38
            sum(3) = -19
            greatest(3) = 18
            retract(s, 3, 0) = 37
            sum(3) = -19
            pairs(3) = 37
            retract(s, 3, -20) = -3
            retract(s, 3, 19) = -3
            retract(s, 3, 0) = -3
            """);
        sentence("Promise 3: One held tuple is taken back (its key may be closed on a stream, but not finished).");
        runOnEachStream("""
            2 x feed(s, 8, 4)
            feed(t, 8, 4)
            close(s, 8, 8) = 0
            retract(s, 8, 4) = 1
            retract(t, 8, 4) = 0
            feed(s, 8, 4) = -4
            close(t, 8, 8) = 1
            retract(s, 8, 4) = -3
            """);

        sentence("Promise 3: -1 if stream is not good.");
        runWithEach(BAD_STREAMS, "feed(s, 0, 0)\nfeed(t, 0, 0)\nretract(b, 0, 0) = -1\nretract(s, 0, 0) = 0\n");

        sentence("Promise 3: -2 if key is not good.");
        runWithEach(BAD_KEYS, "feed(s, 0, 0)\nfeed(s, 15, 0)\nretract(s, b, 0) = -2\nretract(s, 0, 0) = 1\nretract(s, 15, 0) = 0\n");

        sentence("Promise 3: -3 if no such tuple is held.");
        runWithEachKey("""
            retract(s, k, 0) = -3
            feed(s, k, 1) = 1
            feed(t, k, 2) = 1
            retract(s, k, 0) = -3
            retract(s, k, -1) = -3
            retract(s, k, 2) = -3
            retract(s, k, 1) = 0
            retract(s, k, 1) = -3
            retract(t, k, 1) = -3
            retract(t, k, 2) = 0
            """);
        sentence("Promise 3: -3 if no such tuple is held (a tuple of that key and one of that value are not one of both).");
        runOnEachStream("""
            feed(s, 4, 7)
            feed(s, 5, 8)
            retract(s, 4, 8) = -3
            retract(s, 5, 7) = -3
            held(s) = 2
            """);
        sentence("Promise 3: -3 if no such tuple is held (for values that no tuple may have, too).");
        runWithEach(BAD_VALUES, "retract(s, 0, b) = -3\nfeed(s, 0, 50)\nfeed(s, 0, -50)\nretract(s, 0, b) = -3\n");
        sentence("Promise 3: -3 if no such tuple is held (a finished key has none).");
        runOnEachStream("""
            feed(s, 4, 7)
            feed(t, 4, 7)
            close(s, 4, 4) = 0
            close(t, 4, 4) = 1
            retract(s, 4, 7) = -3
            retract(t, 4, 7) = -3
            """);

        sentence("Promise 3: otherwise answers how many tuples the stream holds now.");
        runOnEachStream("""
            40 x feed(s, 0, 5)
            2 x feed(t, 0, 5)
            40 x retract(s, 0, 5) = 39 .. 0
            retract(s, 0, 5) = -3
            2 x retract(t, 0, 5) = 1 .. 0
            40 x feed(s, 0, 5) = 1 .. 40
            """);
    }

    private static void promise4Close() {
        sentence("Promise 4: The keys first .. last are closed on the stream.");
        int[][] ranges = {{0, 0}, {15, 15}, {0, 15}, {0, 1}, {14, 15}, {3, 4}, {7, 7}, {1, 14}};
        for (int[] range : ranges) {
            StringBuilder rows = new StringBuilder("close(s, " + range[0] + ", " + range[1] + ") = 0\n");
            for (int key = 0; key < 16; key++) {
                boolean within = range[0] <= key && key <= range[1];
                rows.append("closed(s, " + key + ") = " + (within ? 1 : 0) + "\n");
                rows.append("closed(t, " + key + ") = 0\n");
            }
            runOnEachStream(rows.toString());
        }

        sentence("Promise 4: those that are closed on it already stay so.");
        runOnEachStream("""
            close(s, 4, 8) = 0
            close(s, 8, 10) = 0
            close(s, 4, 4) = 0
            close(s, 5, 7) = 0
            closed(s, 3) = 0
            closed(s, 4) = 1
            closed(s, 7) = 1
            closed(s, 8) = 1
            closed(s, 10) = 1
            closed(s, 11) = 0
            close(s, 0, 15) = 0
            closed(s, 6) = 1
            """);
        sentence("Promise 4: those that are closed on it already stay so (and are not finished a second time).");
        runOnEachStream("""
            feed(s, 6, 3)
            feed(t, 6, 3)
            close(s, 6, 6) = 0
            close(t, 6, 6) = 1
            close(s, 6, 6) = 0
            close(t, 6, 6) = 0
            close(s, 5, 7) = 0
            close(t, 5, 7) = 2
            results() = 1
            closed(s, 6) = 1
            closed(t, 6) = 1
            """);

        sentence("Promise 4: Keys that are finished by that come in rising order of keys.");
        runOnEachStream(repeated("feed(0, n, 1)\nfeed(1, n, 1)\n", 8, 15) + repeated("feed(1, n, 1)\nfeed(0, n, 1)\n", 0, 7)
            + """
            close(s, 8, 15) = 0
            close(s, 0, 7) = 0
            close(t, 0, 15) = 16
            results() = 16
            """ + repeated("resultKey(n) = n\n", 0, 15));
        sentence("Promise 4: Keys that are finished by that come in rising order of keys (after the earlier results).");
        runOnEachStream("""
            feed(0, 15, 1)
            feed(1, 15, 1)
            feed(0, 9, 1)
            feed(1, 9, 1)
            feed(0, 0, 1)
            feed(1, 0, 1)
            close(s, 9, 9) = 0
            close(s, 15, 15) = 0
            close(t, 9, 15) = 2
            close(t, 0, 8) = 0
            close(s, 0, 15) = 14
            resultKey(0) = 9
            resultKey(1) = 15
            resultKey(2) = 0
            resultKey(3) = -1
            """);

        sentence("Promise 4: -1 if stream is not good.");
        runWithEach(BAD_STREAMS, "close(b, 0, 15) = -1\nclose(b, 0, 0) = -1\nclosed(s, 0) = 0\nclosed(s, 15) = 0\n");

        sentence("Promise 4: -2 unless 0 <= first.");
        runWithEach(new String[] {"-1", "-2", "MIN"}, """
            close(s, b, 0) = -2
            close(s, b, b) = -2
            close(s, b, 15) = -2
            closed(s, 0) = 0
            close(s, 0, 0) = 0
            """);
        sentence("Promise 4: -2 unless first <= last.");
        runOnEachStream("""
            close(s, 1, 0) = -2
            close(s, 15, 14) = -2
            close(s, 15, 0) = -2
            close(s, 8, -1) = -2
            close(s, 16, 15) = -2
            close(s, 8, MIN) = -2
            close(s, MAX, 8) = -2
            close(s, MAX, MIN) = -2
            closed(s, 0) = 0
            closed(s, 8) = 0
            closed(s, 14) = 0
            closed(s, 15) = 0
            close(s, 8, 8) = 0
            """);
        sentence("Promise 4: -2 unless last <= 15.");
        runWithEach(new String[] {"16", "17", "MAX"}, """
            close(s, 15, b) = -2
            close(s, b, b) = -2
            close(s, 0, b) = -2
            closed(s, 15) = 0
            close(s, 15, 15) = 0
            """);

        sentence("Promise 4: otherwise answers how many keys were finished by this call.");
        runOnEachStream("""
            close(s, 0, 15) = 0
            close(t, 0, 15) = 16
            close(t, 0, 15) = 0
            close(s, 0, 15) = 0

            close(s, 3, 6) = 0
            close(t, 6, 9) = 1
            close(t, 2, 5) = 3
            close(s, 2, 2) = 1
            close(s, 0, 15) = 3
            close(t, 0, 15) = 8
            """);
        sentence("Promise 4: otherwise answers how many keys were finished by this call (with and without a result).");
        runOnEachStream("""
            feed(s, 1, 1)
            feed(t, 1, 1)
            feed(s, 2, 1)
            close(s, 0, 3) = 0
            close(t, 0, 3) = 4
            results() = 1
            """);
    }

    private static void promise5Held() {
        sentence("Promise 5: How many tuples the stream holds.");
        runOnEachStream("""
            held(s) = 0
            39 x feed(s, 3, 1)
            held(s) = 39
            feed(s, 4, 1)
            held(s) = 40
            feed(s, 4, 1) = -5
            held(s) = 40
            held(t) = 0
            retract(s, 4, 1) = 39
            held(s) = 39
            close(s, 3, 3) = 0
            held(s) = 39
            close(t, 3, 3) = 1
            held(s) = 0
            """);

        sentence("Promise 5: -1 if it is not good.");
        runWithEach(BAD_STREAMS, "held(b) = -1\nfeed(s, 0, 0)\nheld(b) = -1\nheld(s) = 1\n");
    }

    private static void promise6HeldWith() {
        sentence("Promise 6: How many tuples with the key the stream holds.");
        runWithEachKey("""
            heldWith(s, k) = 0
            40 x feed(s, k, -1)
            heldWith(s, k) = 40
            heldWith(t, k) = 0
            retract(s, k, -1) = 39
            heldWith(s, k) = 39
            close(s, k, k) = 0
            heldWith(s, k) = 39
            close(t, k, k) = 1
            heldWith(s, k) = 0
            """);
        sentence("Promise 6: How many tuples with the key the stream holds (none of another key).");
        runOnEachStream("""
            2 x feed(s, 6, 1)
            3 x feed(s, 8, 1)
            heldWith(s, 6) = 2
            heldWith(s, 7) = 0
            heldWith(s, 8) = 3
            """);

        sentence("Promise 6: -1 if stream is not good.");
        runWithEach(BAD_STREAMS, "heldWith(b, 0) = -1\nheldWith(b, 15) = -1\n");

        sentence("Promise 6: -2 if key is not good.");
        runWithEach(BAD_KEYS, "heldWith(s, b) = -2\nfeed(s, 0, 1)\nfeed(s, 15, 1)\nheldWith(s, b) = -2\n");
    }

    private static void promise7Closed() {
        sentence("Promise 7: 1 if the key is closed on the stream, otherwise 0.");
        runWithEachKey("""
            closed(s, k) = 0
            close(s, k, k) = 0
            closed(s, k) = 1
            closed(t, k) = 0
            close(t, k, k) = 1
            closed(s, k) = 1
            closed(t, k) = 1
            """);

        sentence("Promise 7: -1 if stream is not good.");
        runWithEach(BAD_STREAMS, "closed(b, 0) = -1\nclose(s, 0, 15) = 0\nclosed(b, 0) = -1\nclosed(b, 15) = -1\n");

        sentence("Promise 7: -2 if key is not good.");
        runWithEach(BAD_KEYS, "closed(s, b) = -2\nclose(s, 0, 15) = 0\nclosed(s, b) = -2\n");
    }

    private static void promise8Results() {
        sentence("Promise 8: How many results there are.");
        runOnEachStream("results() = 0\n" + repeated("feed(s, n, 0)\nfeed(t, n, 0)\n", 0, 15) + "results() = 0\nclose(s, 0, 15) = 0\nresults() = 0\n"
            + "close(t, 0, 0) = 1\nresults() = 1\nclose(t, 0, 14) = 14\nresults() = 15\nclose(t, 15, 15) = 1\nresults() = 16\n"
            + "close(t, 0, 15) = 0\nresults() = 16\n");
        sentence("Promise 8: How many results there are (keys without a pair give none).");
        run("""
            close(0, 0, 15) = 0
            close(1, 0, 15) = 16
            results() = 0
            """);
    }

    /** Two results: key 9 with products of both signs, then key 3 with one product below 0. */
    private static final String TWO_RESULTS = """
        feed(0, 9, -50)
        feed(0, 9, 20)
        feed(1, 9, 50)
        feed(1, 9, -3)
        feed(1, 9, 1)
        feed(0, 3, -2)
        feed(1, 3, 7)
        feed(0, 4, 6)
        close(0, 0, 15)
        close(1, 9, 9)
        close(1, 3, 4)
        """;
    private static final String ALL_RESULTS =
        repeated("feed(0, n, n)\nfeed(1, n, 2)\nfeed(1, n, -3)\n", 0, 12) + repeated("feed(0, n, -1)\nfeed(1, n, 2)\n", 13, 13)
        + "close(0, 0, 13)\nclose(1, 0, 13)\n" + repeated("feed(0, n, 50)\nfeed(1, n, 50)\n", 14, 15) + "close(1, 14, 15)\nclose(0, 14, 15)\n";

    /** The answer for every number that no result has: of a new object, of one with two results, of one with all 16. */
    private static void dueWithoutResult(String method, int answer) {
        String row = method + "(b) = " + answer + "\n";
        runWithEach(new String[] {"-1", "0", "1", "15", "16", "MIN", "MAX"}, row);
        runWithEach(new String[] {"-1", "2", "3", "15", "16", "MIN", "MAX"}, TWO_RESULTS + row);
        runWithEach(new String[] {"-1", "16", "17", "MIN", "MAX"}, ALL_RESULTS + row);
        run("feed(0, 0, 5)\nfeed(1, 0, 5)\nclose(0, 0, 0)\n" + method + "(0) = " + answer);
        run("feed(0, 0, 5)\nclose(0, 0, 0)\nclose(1, 0, 0)\n" + method + "(0) = " + answer);
    }

    private static void promise9ResultKey() {
        sentence("Promise 9: The key of a result (first and last).");
        run(TWO_RESULTS + "resultKey(0) = 9\nresultKey(1) = 3\n");
        run(ALL_RESULTS + "resultKey(0) = 0\nresultKey(15) = 15\n");
        sentence("Promise 9: -1 if there is no such result.");
        dueWithoutResult("resultKey", -1);
    }

    private static void promise10ResultPairs() {
        sentence("Promise 10: The number of pairs of a result (fewest and most).");
        run(TWO_RESULTS + "resultPairs(0) = 6\nresultPairs(1) = 1\n");
        run(ALL_RESULTS + "resultPairs(0) = 2\nresultPairs(15) = 1\n");
        run("40 x feed(0, 2, 1)\n40 x feed(1, 2, 1)\nclose(0, 2, 2)\nclose(1, 2, 2)\nresultPairs(0) = 1600");
        sentence("Promise 10: -1 if there is no such result.");
        dueWithoutResult("resultPairs", -1);
    }

    private static void promise11ResultSum() {
        sentence("Promise 11: The sum of the products of a result (below 0, 0, least and greatest).");
        run(TWO_RESULTS + "resultSum(0) = -1440\nresultSum(1) = -14\n");
        run(ALL_RESULTS + "resultSum(0) = 0\nresultSum(12) = -12\nresultSum(15) = 2500\n");
        runOnEachStream("40 x feed(s, 2, 50)\n40 x feed(t, 2, -50)\nclose(0, 2, 2)\nclose(1, 2, 2)\nresultSum(0) = -4000000");
        runOnEachStream("40 x feed(s, 2, -50)\n40 x feed(t, 2, -50)\nclose(0, 2, 2)\nclose(1, 2, 2)\nresultSum(0) = 4000000");
        sentence("Promise 11: 0 if there is no such result.");
        dueWithoutResult("resultSum", 0);
    }

    private static void promise12ResultLeast() {
        sentence("Promise 12: The least product of a result (below 0, 0, above 0, least and greatest).");
        run(TWO_RESULTS + "resultLeast(0) = -2500\nresultLeast(1) = -14\n");
        run(ALL_RESULTS + "resultLeast(0) = 0\nresultLeast(12) = -36\nresultLeast(15) = 2500\n");
        sentence("Promise 12: 0 if there is no such result.");
        dueWithoutResult("resultLeast", 0);
    }

    private static void promise13ResultGreatest() {
        sentence("Promise 13: The greatest product of a result (below 0, 0, above 0, least and greatest).");
        run(TWO_RESULTS + "resultGreatest(0) = 1000\nresultGreatest(1) = -14\n");
        run(ALL_RESULTS + "resultGreatest(0) = 0\nresultGreatest(12) = 24\nresultGreatest(13) = -2\nresultGreatest(15) = 2500\n");
        run("feed(0, 2, 50)\nfeed(1, 2, -50)\nclose(0, 2, 2)\nclose(1, 2, 2)\nresultGreatest(0) = -2500");
        sentence("Promise 13: 0 if there is no such result.");
        dueWithoutResult("resultGreatest", 0);
    }

    private static void promise14Pairs() {
        sentence("Promise 14: How many pairs the key has now.");
        runWithEachKey("""
            pairs(k) = 0
            40 x feed(s, k, 1)
            pairs(k) = 0
            feed(t, k, 1)
            pairs(k) = 40
            39 x feed(t, k, 1)
            pairs(k) = 1600
            retract(s, k, 1) = 39
            pairs(k) = 1560
            close(s, k, k) = 0
            pairs(k) = 1560
            close(t, k, k) = 1
            pairs(k) = 0
            """);
        sentence("Promise 14: -1 if key is not good.");
        runWithEach(BAD_KEYS, "pairs(b) = -1\nfeed(s, 0, 1)\nfeed(t, 0, 1)\nfeed(s, 15, 1)\nfeed(t, 15, 1)\npairs(b) = -1\n");
    }

    private static void promise15Sum() {
        sentence("Promise 15: The sum of the products of the key's pairs now.");
        runWithEachKey("""
            40 x feed(s, k, 50)
            sum(k) = 0
            39 x feed(t, k, -50)
            feed(t, k, -49)
            sum(k) = -3998000
            retract(t, k, -49) = 39
            feed(t, k, -50) = 40
            sum(k) = -4000000
            retract(s, k, 50) = 39
            sum(k) = -3900000
            close(s, k, k) = 0
            sum(k) = -3900000
            close(t, k, k) = 1
            sum(k) = 0
            """);
        sentence("Promise 15: The sum of the products of the key's pairs now (0 for a key without a pair, or if they make 0).");
        runOnEachStream("""
            sum(5) = 0
            feed(s, 5, 9)
            sum(5) = 0
            feed(t, 6, 9)
            sum(5) = 0
            feed(t, 5, 8)
            feed(t, 5, -8)
            sum(5) = 0
            feed(t, 5, 1)
            sum(5) = 9
            """);
        sentence("Promise 15: 0 if key is not good.");
        runWithEach(BAD_KEYS, "sum(b) = 0\nfeed(s, 0, 1)\nfeed(t, 0, 1)\nfeed(s, 15, 1)\nfeed(t, 15, 1)\nsum(b) = 0\n");
    }

    private static void promise16Least() {
        sentence("Promise 16: The least product of the key's pairs now.");
        runWithEachKey("""
            feed(s, k, 50)
            feed(t, k, 50)
            least(k) = 2500
            feed(t, k, 0)
            least(k) = 0
            feed(t, k, -50)
            least(k) = -2500
            retract(t, k, -50) = 2
            least(k) = 0
            close(s, k, k) = 0
            least(k) = 0
            """);
        sentence("Promise 16: The least product of the key's pairs now (of two values below 0, and not of another key's).");
        runOnEachStream("""
            feed(s, 5, -3)
            feed(s, 5, -7)
            feed(t, 5, -4)
            feed(t, 5, -2)
            feed(s, 4, -50)
            feed(t, 6, -50)
            least(5) = 6
            """);
        sentence("Promise 16: 10000 if key is not good.");
        runWithEach(BAD_KEYS, "least(b) = 10000\nfeed(s, 0, 1)\nfeed(t, 0, 1)\nfeed(s, 15, 1)\nfeed(t, 15, 1)\nleast(b) = 10000\n");
        sentence("Promise 16: 10000 if key has no pair.");
        runWithEachKey("""
            least(k) = 10000
            feed(s, k, -50)
            least(k) = 10000
            feed(t, k, 50)
            least(k) = -2500
            retract(s, k, -50) = 0
            least(k) = 10000
            feed(s, k, -50)
            close(s, k, k) = 0
            close(t, k, k) = 1
            least(k) = 10000
            """);
    }

    private static void promise17Greatest() {
        sentence("Promise 17: The greatest product of the key's pairs now.");
        runWithEachKey("""
            feed(s, k, 50)
            feed(t, k, -50)
            greatest(k) = -2500
            feed(t, k, 0)
            greatest(k) = 0
            feed(t, k, 50)
            greatest(k) = 2500
            retract(t, k, 50) = 2
            greatest(k) = 0
            close(s, k, k) = 0
            greatest(k) = 0
            """);
        sentence("Promise 17: The greatest product of the key's pairs now (of two values below 0, and not of another key's).");
        runOnEachStream("""
            feed(s, 5, -3)
            feed(s, 5, -7)
            feed(t, 5, -4)
            feed(t, 5, 5)
            feed(s, 4, -50)
            feed(t, 6, -50)
            greatest(5) = 28
            """);
        sentence("Promise 17: -10000 if key is not good.");
        runWithEach(BAD_KEYS, "greatest(b) = -10000\nfeed(s, 0, 1)\nfeed(t, 0, 1)\nfeed(s, 15, 1)\nfeed(t, 15, 1)\ngreatest(b) = -10000\n");
        sentence("Promise 17: -10000 if key has no pair.");
        runWithEachKey("""
            greatest(k) = -10000
            feed(s, k, -50)
            greatest(k) = -10000
            feed(t, k, -50)
            greatest(k) = 2500
            retract(s, k, -50) = 0
            greatest(k) = -10000
            feed(s, k, -50)
            close(s, k, k) = 0
            close(t, k, k) = 1
            greatest(k) = -10000
            """);
    }

    private static void promise18PairsFrom() {
        sentence("Promise 18: How many pairs of all keys there are now (none, and the most).");
        runOnEachStream("""
            pairsFrom(MIN) = 0
            40 x feed(s, 15, 50)
            pairsFrom(MIN) = 0
            40 x feed(t, 15, -50)
            pairsFrom(MIN) = 1600
            close(s, 15, 15) = 0
            pairsFrom(MIN) = 1600
            retract(t, 15, -50) = 39
            pairsFrom(MIN) = 1560
            close(t, 15, 15) = 1
            pairsFrom(MIN) = 0
            """);
        sentence("Promise 18: How many pairs of all keys there are now (of all 16, and none of two keys).");
        runOnEachStream(repeated("feed(s, n, 1)\n", 0, 15) + "pairsFrom(MIN) = 0\n" + repeated("feed(t, n, n)\n", 0, 15)
            + "pairsFrom(MIN) = 16\npairsFrom(0) = 16\npairsFrom(1) = 15\npairsFrom(15) = 1\npairsFrom(16) = 0\n");
        sentence("Promise 18: whose product is at least bound.");
        for (int product : new int[] {-2500, -50, 0, 50, 2500}) {
            int value = product == 0 ? 0 : product / 50;
            runOnEachStream("feed(s, 6, 50)\nfeed(t, 6, " + value + ")\n"
                + "pairsFrom(" + (product - 1) + ") = 1\npairsFrom(" + product + ") = 1\npairsFrom(" + (product + 1) + ") = 0\n");
        }
        sentence("Promise 18: bound may be any int.");
        runOnEachStream("""
            feed(s, 6, -50)
            feed(t, 6, -50)
            feed(t, 6, 50)
            pairsFrom(MIN) = 2
            pairsFrom(-2147483647) = 2
            pairsFrom(-10000) = 2
            pairsFrom(10000) = 0
            pairsFrom(2147483646) = 0
            pairsFrom(MAX) = 0
            """);
    }

    private static void promise19BandsFinished() {
        sentence("Promise 19: How many bands are finished (none, each, all).");
        runOnEachStream("""
            bandsFinished() = 0
            close(s, 0, 15) = 0
            bandsFinished() = 0
            close(t, 8, 11) = 4
            bandsFinished() = 1
            close(t, 0, 2) = 3
            bandsFinished() = 1
            close(t, 3, 3) = 1
            bandsFinished() = 2
            close(t, 5, 14) = 6
            bandsFinished() = 2
            close(t, 4, 4) = 1
            bandsFinished() = 3
            close(t, 15, 15) = 1
            bandsFinished() = 4
            """);
        sentence("Promise 19: How many bands are finished (four keys that finish need not be a band).");
        runOnEachStream("""
            close(s, 2, 5) = 0
            close(t, 2, 5) = 4
            bandsFinished() = 0
            close(t, 0, 1) = 0
            close(s, 6, 7) = 0
            bandsFinished() = 0
            """);
    }

    private static void promise20BandSum() {
        sentence("Promise 20: The sum of resultSum over all results with keys of a finished band (its first and last keys, none of its neighbours).");
        int[] sums = {0 + 1 + 4 + 9, 16 + 25 + 36 + 49, 64 + 81 + 100 + 121, 144 + 169 + 196 + 225};
        for (int band = 0; band < 4; band++) {
            runOnEachStream(repeated("feed(s, n, n)\nfeed(t, n, n)\n", 0, 15) + "close(s, 0, 15) = 0\nclose(t, 0, 15) = 16\n"
                + "bandSum(" + band + ") = " + sums[band] + "\n");
        }
        sentence("Promise 20: The sum of resultSum over all results with keys of a finished band (the greatest and least).");
        for (int value : new int[] {-50, 50}) {
            runOnEachStream(repeated("40 x feed(s, n, 50)\n40 x feed(t, n, " + value + ")\nclose(s, n, n) = 0\nclose(t, n, n) = 1\n", 12, 15)
                + "bandSum(3) = " + 4 * 1600 * 50 * value + "\nbandSum(2) = -2000000\n");
        }
        sentence("Promise 20: The sum of resultSum over all results with keys of a finished band (0 without a result).");
        runOnEachStream("""
            feed(s, 4, 9)
            feed(t, 3, 9)
            close(s, 4, 7) = 0
            close(t, 4, 7) = 4
            bandSum(1) = 0
            """);
        sentence("Promise 20: -1000000 if band is not in 0 .. 3.");
        runWithEach(BAD_BANDS, """
            bandSum(b) = -1000000
            close(s, 0, 15) = 0
            bandSum(b) = -1000000
            close(t, 0, 15) = 16
            bandSum(b) = -1000000
            bandSum(0) = 0
            bandSum(3) = 0
            """);
        sentence("Promise 20: -2000000 if it is not finished.");
        for (int key = 0; key < 16; key++) {
            int first = key - key % 4;
            StringBuilder rows = new StringBuilder("bandSum(" + key / 4 + ") = -2000000\n");
            for (int other = first; other < first + 4; other++) {
                rows.append("feed(s, " + other + ", 3)\nfeed(t, " + other + ", 3)\nclose(s, " + other + ", " + other + ") = 0\n");
                rows.append(other == key ? "" : "close(t, " + other + ", " + other + ") = 1\n");
            }
            rows.append("results() = 3\nbandSum(" + key / 4 + ") = -2000000\n");
            rows.append("close(t, " + key + ", " + key + ") = 1\nbandSum(" + key / 4 + ") = 36\n");
            runOnEachStream(rows.toString());
        }
    }
}
