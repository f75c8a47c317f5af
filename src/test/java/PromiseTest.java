import java.util.Objects;

/** One group of checks a promise of the document: ordinary inputs, edges and wrong inputs. */
public final class PromiseTest {
    private static final int LOW = Integer.MIN_VALUE;
    private static final int HIGH = Integer.MAX_VALUE;
    private static final int[] BAD_STREAMS = {-1, 2, LOW, HIGH};
    private static final int[] BAD_KEYS = {-1, 16, LOW, HIGH};

    private static int wrong = 0;

    public static void main(String[] args) {
        promise1NewObject();
        promise2Feed();
        promise2FeedOrderOfTests();
        promise2FeedFullStream();
        promise3Retract();
        promise3RetractOfEqualTuples();
        promise3RetractWrongInputs();
        promise4Close();
        promise4CloseOrderOfResults();
        promise4CloseFinishesOnce();
        promise4CloseWrongInputs();
        promise5Held();
        promise6HeldWith();
        promise7Closed();
        promise8Results();
        promises9To13OfAResult();
        promises9To13WithoutSuchResult();
        promises9To13ResultsStay();
        promise14Pairs();
        promise15Sum();
        promise16Least();
        promise17Greatest();
        promise18PairsFrom();
        promise19BandsFinished();
        promise20BandSum();
        refusedCallsChangeNothing();
        objectsAreApart();
        System.out.println(wrong == 0 ? "all answers are as due" : wrong + " answers are not as due");
        if (wrong != 0) {
            System.exit(1);
        }
    }

    private static void due(String call, int got, int want) {
        if (got != want) {
            wrong++;
            System.out.println(call + " answered " + got + ", due is " + want);
        }
    }

    private static void dueState(String call, String got, String want) {
        if (!Objects.equals(got, want)) {
            wrong++;
            System.out.println(call + " left\n  " + got + "\ndue is\n  " + want);
        }
    }

    /** Every answer that tells something of the state, in one text. */
    private static String state(PunctuatedQuery q) {
        StringBuilder text = new StringBuilder();
        for (int stream = 0; stream < 2; stream++) {
            text.append(" held ").append(q.held(stream));
            for (int key = 0; key < 16; key++) {
                text.append(' ').append(q.heldWith(stream, key)).append('/').append(q.closed(stream, key));
            }
        }
        text.append(" results ").append(q.results());
        for (int i = 0; i < q.results(); i++) {
            text.append(' ').append(q.resultKey(i)).append('/').append(q.resultPairs(i)).append('/')
                .append(q.resultSum(i)).append('/').append(q.resultLeast(i)).append('/').append(q.resultGreatest(i));
        }
        text.append(" now");
        for (int key = 0; key < 16; key++) {
            text.append(' ').append(q.pairs(key)).append('/').append(q.sum(key)).append('/')
                .append(q.least(key)).append('/').append(q.greatest(key));
        }
        text.append(" bands ").append(q.bandsFinished());
        for (int band = 0; band < 4; band++) {
            text.append(' ').append(q.bandSum(band));
        }
        return text.append(" from ").append(q.pairsFrom(LOW)).append('/').append(q.pairsFrom(1)).toString();
    }

    private static PunctuatedQuery fed(int[][] tuples) {
        PunctuatedQuery q = new PunctuatedQuery();
        for (int[] tuple : tuples) {
            if (q.feed(tuple[0], tuple[1], tuple[2]) < 1) {
                due("feed of the test's own tuples", -1, 1);
            }
        }
        return q;
    }

    private static void promise1NewObject() {
        PunctuatedQuery q = new PunctuatedQuery();
        due("1: results()", q.results(), 0);
        due("1: pairsFrom(least int)", q.pairsFrom(LOW), 0);
        due("1: bandsFinished()", q.bandsFinished(), 0);
        for (int stream = 0; stream < 2; stream++) {
            due("1: held", q.held(stream), 0);
            for (int key = 0; key < 16; key++) {
                due("1: heldWith", q.heldWith(stream, key), 0);
                due("1: closed", q.closed(stream, key), 0);
                due("1: pairs", q.pairs(key), 0);
                due("1: retract of the zero tuple", q.retract(stream, key, 0), -3);
            }
        }
    }

    private static void promise2Feed() {
        PunctuatedQuery q = new PunctuatedQuery();
        due("2: feed(0, 0, -50)", q.feed(0, 0, -50), 1);
        due("2: feed(0, 15, 50)", q.feed(0, 15, 50), 2);
        due("2: feed(1, 15, 50)", q.feed(1, 15, 50), 1);
        due("2: feed of an equal tuple", q.feed(1, 15, 50), 2);
        due("2: feed(1, 0, -50)", q.feed(1, 0, -50), 3);
        due("2: pairs of equal tuples", q.pairs(15), 2);
        due("2: sum(0)", q.sum(0), 2500);
        due("2: sum(15)", q.sum(15), 5000);
        for (int value : new int[] {-51, 51, LOW, HIGH}) {
            due("2: feed of value " + value, q.feed(0, 1, value), -3);
        }
        for (int key : BAD_KEYS) {
            due("2: feed of key " + key, q.feed(0, key, 1), -2);
        }
        for (int stream : BAD_STREAMS) {
            due("2: feed on stream " + stream, q.feed(stream, 1, 1), -1);
        }
        due("2: close(0, 3, 3)", q.close(0, 3, 3), 0);
        due("2: feed of the closed key", q.feed(0, 3, 1), -4);
        due("2: feed beside the closed key", q.feed(0, 4, 1), 3);
        due("2: feed of it on the other stream", q.feed(1, 3, 1), 4);
    }

    private static void promise2FeedOrderOfTests() {
        PunctuatedQuery q = new PunctuatedQuery();
        for (int n = 1; n <= 40; n++) {
            due("2: feed until full", q.feed(0, n % 16, n), n);
        }
        due("2: close(0, 2, 2)", q.close(0, 2, 2), 0);
        due("2: all wrong", q.feed(2, 16, 51), -1);
        due("2: key and value wrong", q.feed(0, 16, 51), -2);
        due("2: value wrong, closed, full", q.feed(0, 2, 51), -3);
        due("2: closed, full", q.feed(0, 2, 50), -4);
        due("2: full", q.feed(0, 3, 50), -5);
    }

    private static void promise2FeedFullStream() {
        for (int stream = 0; stream < 2; stream++) {
            PunctuatedQuery q = new PunctuatedQuery();
            for (int n = 1; n <= 40; n++) {
                due("2: feed of tuple " + n, q.feed(stream, 7, 50), n);
            }
            due("2: feed of tuple 41", q.feed(stream, 7, 50), -5);
            due("2: held when full", q.held(stream), 40);
            due("2: the other stream has room", q.feed(1 - stream, 7, 50), 1);
            due("2: retract makes room", q.retract(stream, 7, 50), 39);
            due("2: feed into that room", q.feed(stream, 8, 1), 40);
            due("2: full again", q.feed(stream, 8, 1), -5);
            due("2: close on one stream makes no room", q.close(stream, 7, 7), 0);
            due("2: still full", q.feed(stream, 8, 1), -5);
            due("2: finishing makes room", q.close(1 - stream, 7, 7), 1);
            due("2: feed after finishing", q.feed(stream, 8, 1), 2);
        }
    }

    private static void promise3Retract() {
        PunctuatedQuery q = fed(new int[][] {{0, 1, 5}, {0, 1, -6}, {0, 2, 5}, {1, 1, 5}, {1, 1, 3}});
        due("3: value held with another key alone", q.retract(0, 2, -6), -3);
        due("3: tuple held on the other stream alone", q.retract(0, 1, 3), -3);
        due("3: retract of the first", q.retract(0, 1, 5), 2);
        due("3: it is gone", q.retract(0, 1, 5), -3);
        due("3: heldWith(0, 1)", q.heldWith(0, 1), 1);
        due("3: heldWith(0, 2)", q.heldWith(0, 2), 1);
        due("3: the other stream keeps its own", q.heldWith(1, 1), 2);
        due("3: least(1)", q.least(1), -30);
        due("3: greatest(1)", q.greatest(1), -18);
        due("3: retract of the last", q.retract(0, 2, 5), 1);
        due("3: retract of the only one", q.retract(0, 1, -6), 0);
        due("3: nothing held", q.retract(0, 1, -6), -3);
        due("3: feed after all that", q.feed(0, 1, 9), 1);
        due("3: sum(1)", q.sum(1), 72);
        due("3: close(1, 1, 1)", q.close(1, 1, 1), 0);
        due("3: retract of a closed key", q.retract(1, 1, 5), 1);
        due("3: close(0, 1, 1)", q.close(0, 1, 1), 1);
        due("3: retract of a finished key", q.retract(1, 1, 3), -3);
        due("3: and on stream 0", q.retract(0, 1, 9), -3);
    }

    private static void promise3RetractOfEqualTuples() {
        PunctuatedQuery q = fed(new int[][] {{1, 4, 2}, {1, 4, 2}, {1, 4, 2}, {0, 4, 1}});
        due("3: retract of one of three", q.retract(1, 4, 2), 2);
        due("3: pairs(4)", q.pairs(4), 2);
        due("3: retract of one of two", q.retract(1, 4, 2), 1);
        due("3: retract of one", q.retract(1, 4, 2), 0);
        due("3: retract of none", q.retract(1, 4, 2), -3);
    }

    private static void promise3RetractWrongInputs() {
        PunctuatedQuery q = fed(new int[][] {{0, 0, 0}, {1, 0, 0}});
        for (int stream : BAD_STREAMS) {
            due("3: retract on stream " + stream, q.retract(stream, 0, 0), -1);
            due("3: stream before key", q.retract(stream, 16, 99), -1);
        }
        for (int key : BAD_KEYS) {
            due("3: retract of key " + key, q.retract(0, key, 0), -2);
            due("3: key before value", q.retract(1, key, 99), -2);
        }
        for (int value : new int[] {-51, 51, LOW, HIGH}) {
            due("3: retract of value " + value, q.retract(0, 0, value), -3);
        }
    }

    private static void promise4Close() {
        PunctuatedQuery q = fed(new int[][] {{0, 5, 2}, {1, 5, 3}, {0, 6, 4}, {1, 8, 9}, {0, 9, 1}, {1, 9, 1}});
        due("4: close(0, 5, 8)", q.close(0, 5, 8), 0);
        for (int key = 0; key < 16; key++) {
            due("4: closed(0, " + key + ")", q.closed(0, key), key >= 5 && key <= 8 ? 1 : 0);
            due("4: closed(1, " + key + ")", q.closed(1, key), 0);
        }
        due("4: tuples of a key closed on one stream stay", q.held(0), 3);
        due("4: and its pairs", q.pairs(5), 1);
        due("4: close(1, 4, 9)", q.close(1, 4, 9), 4);
        due("4: one key alone had a pair", q.results(), 1);
        due("4: resultKey(0)", q.resultKey(0), 5);
        due("4: tuples without a pair go too, stream 0", q.held(0), 1);
        due("4: tuples without a pair go too, stream 1", q.held(1), 1);
        due("4: the key not finished keeps its pair", q.pairs(9), 1);
        due("4: close(0, 0, 15)", q.close(0, 0, 15), 2);
        due("4: the key's pair is a result now", q.resultKey(1), 9);
        due("4: close(1, 0, 15)", q.close(1, 0, 15), 10);
    }

    private static void promise4CloseOrderOfResults() {
        PunctuatedQuery q = fed(new int[][] {
            {0, 15, 1}, {1, 15, 1}, {1, 0, 1}, {0, 0, 1}, {0, 7, 1}, {1, 7, 1}, {0, 3, 1}, {1, 3, 1}, {0, 11, 1}, {1, 11, 1}});
        due("4: close(0, 11, 11)", q.close(0, 11, 11), 0);
        due("4: close(1, 11, 11)", q.close(1, 11, 11), 1);
        due("4: close(1, 7, 15)", q.close(1, 7, 15), 0);
        due("4: close(1, 0, 6)", q.close(1, 0, 6), 0);
        due("4: close(0, 0, 15)", q.close(0, 0, 15), 15);
        int[] keys = {11, 0, 3, 7, 15};
        due("4: results()", q.results(), keys.length);
        for (int i = 0; i < keys.length; i++) {
            due("4: resultKey(" + i + ")", q.resultKey(i), keys[i]);
        }
    }

    private static void promise4CloseFinishesOnce() {
        PunctuatedQuery q = fed(new int[][] {{0, 2, 2}, {1, 2, 3}});
        due("4: close(1, 2, 2)", q.close(1, 2, 2), 0);
        due("4: close(1, 2, 2) again", q.close(1, 2, 2), 0);
        due("4: close(0, 2, 2)", q.close(0, 2, 2), 1);
        due("4: close(0, 2, 2) again", q.close(0, 2, 2), 0);
        due("4: close(1, 2, 2) once more", q.close(1, 2, 2), 0);
        due("4: close(0, 1, 3)", q.close(0, 1, 3), 0);
        due("4: close(1, 1, 3)", q.close(1, 1, 3), 2);
        due("4: one result", q.results(), 1);
    }

    private static void promise4CloseWrongInputs() {
        PunctuatedQuery q = new PunctuatedQuery();
        int[][] ranges = {{-1, 0}, {-1, -1}, {0, 16}, {16, 16}, {5, 4}, {15, 0}, {LOW, HIGH}, {HIGH, LOW}, {0, HIGH}, {LOW, 15}};
        for (int[] range : ranges) {
            for (int stream : BAD_STREAMS) {
                due("4: stream before keys", q.close(stream, range[0], range[1]), -1);
            }
            due("4: close(0, " + range[0] + ", " + range[1] + ")", q.close(0, range[0], range[1]), -2);
            due("4: close(1, " + range[0] + ", " + range[1] + ")", q.close(1, range[0], range[1]), -2);
        }
        for (int stream : BAD_STREAMS) {
            due("4: close on stream " + stream, q.close(stream, 0, 15), -1);
        }
        for (int key = 0; key < 16; key++) {
            due("4: nothing is closed", q.closed(0, key) + q.closed(1, key), 0);
        }
        due("4: close(0, 0, 0)", q.close(0, 0, 0), 0);
        due("4: close(1, 0, 0)", q.close(1, 0, 0), 1);
        due("4: close(0, 15, 15)", q.close(0, 15, 15), 0);
        due("4: close(1, 15, 15)", q.close(1, 15, 15), 1);
    }

    private static void promise5Held() {
        PunctuatedQuery q = fed(new int[][] {{0, 1, 1}, {0, 2, 2}, {1, 2, 2}});
        due("5: held(0)", q.held(0), 2);
        due("5: held(1)", q.held(1), 1);
        q.close(0, 2, 2);
        q.close(1, 2, 2);
        due("5: held(0) after a key is finished", q.held(0), 1);
        due("5: held(1) after a key is finished", q.held(1), 0);
        for (int stream : BAD_STREAMS) {
            due("5: held(" + stream + ")", q.held(stream), -1);
        }
    }

    private static void promise6HeldWith() {
        PunctuatedQuery q = fed(new int[][] {{0, 0, 1}, {0, 15, 2}, {0, 15, 2}, {1, 15, 3}, {1, 0, 3}, {1, 0, 4}, {1, 0, 5}});
        due("6: heldWith(0, 0)", q.heldWith(0, 0), 1);
        due("6: heldWith(0, 15)", q.heldWith(0, 15), 2);
        due("6: heldWith(1, 0)", q.heldWith(1, 0), 3);
        due("6: heldWith(1, 15)", q.heldWith(1, 15), 1);
        due("6: heldWith(1, 7)", q.heldWith(1, 7), 0);
        for (int stream : BAD_STREAMS) {
            due("6: heldWith(" + stream + ", 0)", q.heldWith(stream, 0), -1);
            due("6: stream before key", q.heldWith(stream, 16), -1);
        }
        for (int key : BAD_KEYS) {
            due("6: heldWith(0, " + key + ")", q.heldWith(0, key), -2);
            due("6: heldWith(1, " + key + ")", q.heldWith(1, key), -2);
        }
    }

    private static void promise7Closed() {
        PunctuatedQuery q = new PunctuatedQuery();
        q.close(1, 15, 15);
        q.close(0, 0, 0);
        due("7: closed(1, 15)", q.closed(1, 15), 1);
        due("7: closed(0, 15)", q.closed(0, 15), 0);
        due("7: closed(0, 0)", q.closed(0, 0), 1);
        due("7: closed(1, 0)", q.closed(1, 0), 0);
        q.close(0, 15, 15);
        due("7: a finished key is closed", q.closed(0, 15), 1);
        due("7: a finished key is closed", q.closed(1, 15), 1);
        for (int stream : BAD_STREAMS) {
            due("7: closed(" + stream + ", 0)", q.closed(stream, 0), -1);
            due("7: stream before key", q.closed(stream, 16), -1);
        }
        for (int key : BAD_KEYS) {
            due("7: closed(0, " + key + ")", q.closed(0, key), -2);
            due("7: closed(1, " + key + ")", q.closed(1, key), -2);
        }
    }

    private static void promise8Results() {
        PunctuatedQuery q = new PunctuatedQuery();
        for (int key = 0; key < 16; key++) {
            q.feed(0, key, 0);
            q.feed(1, key, 0);
        }
        due("8: results() before", q.results(), 0);
        q.close(0, 0, 15);
        due("8: closed on one stream", q.results(), 0);
        q.close(1, 3, 3);
        due("8: one key finished", q.results(), 1);
        q.close(1, 0, 15);
        due("8: every key finished", q.results(), 16);
        due("8: resultKey(15)", q.resultKey(15), 15);
        due("8: resultPairs(15)", q.resultPairs(15), 1);
        due("8: resultLeast(15)", q.resultLeast(15), 0);
        due("8: resultKey(16)", q.resultKey(16), -1);
        due("20: bandSum(3) with all 16 results", q.bandSum(3), 0);
    }

    private static void promises9To13OfAResult() {
        PunctuatedQuery q = fed(new int[][] {
            {0, 12, -50}, {0, 12, 20}, {1, 12, 50}, {1, 12, -3}, {1, 12, 1}, {0, 13, -2}, {1, 13, 7}, {0, 14, -4}, {1, 14, -5}});
        q.close(0, 12, 14);
        q.close(1, 14, 14);
        q.close(1, 12, 13);
        int[][] rows = {{14, 1, 20, 20, 20}, {12, 6, -1440, -2500, 1000}, {13, 1, -14, -14, -14}};
        for (int i = 0; i < rows.length; i++) {
            due("9: resultKey(" + i + ")", q.resultKey(i), rows[i][0]);
            due("10: resultPairs(" + i + ")", q.resultPairs(i), rows[i][1]);
            due("11: resultSum(" + i + ")", q.resultSum(i), rows[i][2]);
            due("12: resultLeast(" + i + ")", q.resultLeast(i), rows[i][3]);
            due("13: resultGreatest(" + i + ")", q.resultGreatest(i), rows[i][4]);
        }
    }

    private static void promises9To13WithoutSuchResult() {
        PunctuatedQuery empty = new PunctuatedQuery();
        PunctuatedQuery one = fed(new int[][] {{0, 3, 5}, {1, 3, 5}});
        one.close(0, 3, 3);
        one.close(1, 3, 3);
        for (int i : new int[] {-1, 1, 2, 15, 16, LOW, HIGH}) {
            dueNoResult(one, i);
            dueNoResult(empty, i);
        }
        dueNoResult(empty, 0);
    }

    private static void dueNoResult(PunctuatedQuery q, int i) {
        due("9: resultKey(" + i + ")", q.resultKey(i), -1);
        due("10: resultPairs(" + i + ")", q.resultPairs(i), -1);
        due("11: resultSum(" + i + ")", q.resultSum(i), 0);
        due("12: resultLeast(" + i + ")", q.resultLeast(i), 0);
        due("13: resultGreatest(" + i + ")", q.resultGreatest(i), 0);
    }

    private static void promises9To13ResultsStay() {
        PunctuatedQuery q = fed(new int[][] {{0, 9, -6}, {0, 9, 2}, {1, 9, 3}, {0, 1, 1}, {1, 1, 1}});
        q.close(0, 9, 9);
        q.close(1, 9, 9);
        q.feed(0, 2, 8);
        q.feed(1, 2, 8);
        q.retract(0, 1, 1);
        q.close(0, 0, 15);
        q.close(1, 0, 15);
        due("8: results()", q.results(), 2);
        due("9: resultKey(0)", q.resultKey(0), 9);
        due("10: resultPairs(0)", q.resultPairs(0), 2);
        due("11: resultSum(0)", q.resultSum(0), -12);
        due("12: resultLeast(0)", q.resultLeast(0), -18);
        due("13: resultGreatest(0)", q.resultGreatest(0), 6);
        due("9: resultKey(1)", q.resultKey(1), 2);
        due("11: resultSum(1)", q.resultSum(1), 64);
    }

    /** Both streams full, with key 8 alone. */
    private static PunctuatedQuery full() {
        PunctuatedQuery q = new PunctuatedQuery();
        for (int n = 0; n < 40; n++) {
            q.feed(0, 8, 50);
            q.feed(1, 8, -50);
        }
        return q;
    }

    /** Key 0 with products of both signs and 0, key 1 with one pair, keys 14 and 15 on one stream alone. */
    private static PunctuatedQuery mixed() {
        return fed(new int[][] {{0, 0, -4}, {0, 0, 3}, {1, 0, 5}, {1, 0, -2}, {1, 0, 0}, {0, 15, 6}, {1, 14, 6}, {0, 1, -3}, {1, 1, 7}});
    }

    private static void promise14Pairs() {
        PunctuatedQuery q = mixed();
        due("14: pairs(0)", q.pairs(0), 6);
        due("14: pairs(1)", q.pairs(1), 1);
        due("14: a key on stream 0 alone", q.pairs(15), 0);
        due("14: a key on stream 1 alone", q.pairs(14), 0);
        due("14: the most pairs", full().pairs(8), 1600);
        for (int key : BAD_KEYS) {
            due("14: pairs(" + key + ")", q.pairs(key), -1);
        }
    }

    private static void promise15Sum() {
        PunctuatedQuery q = mixed();
        due("15: sum(0)", q.sum(0), -3);
        due("15: sum(1)", q.sum(1), -21);
        due("15: a key without a pair", q.sum(15), 0);
        due("15: a key without a pair", q.sum(14), 0);
        due("15: the least sum", full().sum(8), -4000000);
        for (int key : BAD_KEYS) {
            due("15: sum(" + key + ")", q.sum(key), 0);
        }
    }

    private static void promise16Least() {
        PunctuatedQuery q = mixed();
        due("16: least(0)", q.least(0), -20);
        due("16: least(1)", q.least(1), -21);
        due("16: a key on stream 0 alone", q.least(15), 10000);
        due("16: a key on stream 1 alone", q.least(14), 10000);
        due("16: the least product", full().least(8), -2500);
        due("16: all products above 0", fed(new int[][] {{0, 2, 50}, {1, 2, 50}}).least(2), 2500);
        due("16: retract of the least tuple", q.retract(0, 1, -3), 3);
        due("16: a tuple taken back counts no more", q.least(1), 10000);
        for (int key : BAD_KEYS) {
            due("16: least(" + key + ")", q.least(key), 10000);
        }
        q.close(0, 0, 15);
        q.close(1, 0, 15);
        due("16: a finished key", q.least(0), 10000);
    }

    private static void promise17Greatest() {
        PunctuatedQuery q = mixed();
        due("17: greatest(0)", q.greatest(0), 15);
        due("17: greatest(1), below 0", q.greatest(1), -21);
        due("17: a key on stream 0 alone", q.greatest(15), -10000);
        due("17: a key on stream 1 alone", q.greatest(14), -10000);
        due("17: all products the least", full().greatest(8), -2500);
        due("17: the greatest product", fed(new int[][] {{0, 2, -50}, {1, 2, -50}}).greatest(2), 2500);
        due("17: retract of the only tuple", q.retract(1, 1, 7), 4);
        due("17: a tuple taken back counts no more", q.greatest(1), -10000);
        for (int key : BAD_KEYS) {
            due("17: greatest(" + key + ")", q.greatest(key), -10000);
        }
        q.close(0, 0, 15);
        q.close(1, 0, 15);
        due("17: a finished key", q.greatest(0), -10000);
    }

    private static void promise18PairsFrom() {
        PunctuatedQuery q = mixed();
        int[][] rows = {{LOW, 7}, {-22, 7}, {-21, 7}, {-20, 6}, {-19, 5}, {-6, 5}, {-5, 4}, {0, 4}, {1, 2}, {8, 2}, {9, 1}, {15, 1}, {16, 0}, {HIGH, 0}};
        for (int[] row : rows) {
            due("18: pairsFrom(" + row[0] + ")", q.pairsFrom(row[0]), row[1]);
        }
        due("18: the most pairs", full().pairsFrom(-2500), 1600);
        due("18: none of them", full().pairsFrom(-2499), 0);
        q.close(0, 0, 0);
        due("18: closed on one stream", q.pairsFrom(LOW), 7);
        q.close(1, 0, 0);
        due("18: a finished key has no pairs", q.pairsFrom(LOW), 1);
    }

    private static void promise19BandsFinished() {
        PunctuatedQuery q = new PunctuatedQuery();
        for (int key = 0; key < 16; key++) {
            q.close(0, key, key);
            due("19: bandsFinished() while stream 1 is open", q.bandsFinished(), 0);
        }
        int finished = 0;
        for (int key = 15; key >= 0; key--) {
            q.close(1, key, key);
            finished += key % 4 == 0 ? 1 : 0;
            due("19: bandsFinished() from key " + key + " on", q.bandsFinished(), finished);
        }
        PunctuatedQuery across = new PunctuatedQuery();
        across.close(0, 2, 9);
        across.close(1, 2, 9);
        due("19: keys 2 .. 9 have one whole band", across.bandsFinished(), 1);
    }

    private static void promise20BandSum() {
        PunctuatedQuery q = new PunctuatedQuery();
        for (int key = 0; key < 12; key++) {
            q.feed(0, key, key - 5);
            q.feed(1, key, key + 1);
        }
        q.close(0, 0, 15);
        q.close(1, 3, 8);
        due("20: band 0 lacks keys", q.bandSum(0), -2000000);
        due("20: band 1 is finished", q.bandSum(1), -5 + 0 + 7 + 16);
        due("20: band 2 lacks keys", q.bandSum(2), -2000000);
        due("20: band 3 lacks keys", q.bandSum(3), -2000000);
        q.close(1, 0, 15);
        due("20: band 0", q.bandSum(0), -5 - 8 - 9 - 8);
        due("20: band 1 stays", q.bandSum(1), 18);
        due("20: band 2", q.bandSum(2), 27 + 40 + 55 + 72);
        due("20: a finished band without results", q.bandSum(3), 0);
        for (int band : new int[] {-1, 4, LOW, HIGH}) {
            due("20: bandSum(" + band + ")", q.bandSum(band), -1000000);
            due("20: bandSum(" + band + ") of a new object", new PunctuatedQuery().bandSum(band), -1000000);
        }
        PunctuatedQuery least = full();
        least.close(0, 0, 15);
        least.close(1, 0, 15);
        due("20: the least sum", least.bandSum(2), -4000000);
    }

    private static void refusedCallsChangeNothing() {
        PunctuatedQuery q = mixed();
        q.close(0, 1, 4);
        q.close(1, 0, 3);
        while (q.feed(0, 9, 1) > 0) {
            q.feed(1, 10, 2);
        }
        String before = state(q);
        int[][] feeds = {{2, 0, 0}, {-1, 0, 0}, {0, 16, 0}, {1, -1, 0}, {1, 9, 51}, {1, 9, -51}, {1, 3, 1}, {0, 4, 1}, {0, 9, 1}};
        for (int[] c : feeds) {
            due("refused feed", q.feed(c[0], c[1], c[2]) < 0 ? 1 : 0, 1);
        }
        int[][] retracts = {{2, 0, -4}, {-1, 0, 5}, {0, 16, 0}, {1, -1, 0}, {0, 0, 5}, {1, 1, 7}, {1, 9, 1}, {1, 12, 0}};
        for (int[] c : retracts) {
            due("refused retract", q.retract(c[0], c[1], c[2]) < 0 ? 1 : 0, 1);
        }
        int[][] closes = {{2, 0, 15}, {-1, 0, 15}, {0, 0, 16}, {1, -1, 15}, {1, 9, 8}};
        for (int[] c : closes) {
            due("refused close", q.close(c[0], c[1], c[2]) < 0 ? 1 : 0, 1);
        }
        dueState("refused calls", state(q), before);
    }

    private static void objectsAreApart() {
        PunctuatedQuery one = new PunctuatedQuery();
        PunctuatedQuery two = new PunctuatedQuery();
        String before = state(two);
        one.feed(0, 3, 5);
        one.feed(1, 3, 5);
        one.close(0, 0, 15);
        one.close(1, 0, 15);
        dueState("calls on another object", state(two), before);
    }
}
