/** Joining two streams by key while promises say which keys are finished. */
public final class PunctuatedQuery {
    private static final int STREAMS = 2;
    private static final int KEYS = 16;
    private static final int MOST_HELD = 40;
    private static final int MOST_VALUE = 50;
    private static final int BANDS = 4;
    private static final int KEYS_IN_BAND = 4;
    private static final int TUPLE_SLOTS = STREAMS * MOST_HELD;
    private static final int CLOSED_SLOTS = STREAMS * KEYS;

    private static final int BAD_STREAM = -1;
    private static final int BAD_KEY = -2;
    private static final int NO_SUCH_RESULT = -1;
    private static final int LEAST_OF_NONE = 10000;
    private static final int GREATEST_OF_NONE = -10000;
    private static final int BAD_BAND = -1000000;
    private static final int BAND_NOT_FINISHED = -2000000;

    // The tuples of stream s stand without a gap from slot s * MOST_HELD on. Their order
    // is free: no answer of the document depends on it.
    private final int[] tupleKey = new int[TUPLE_SLOTS];
    private final int[] tupleValue = new int[TUPLE_SLOTS];
    private final int[] heldCount = new int[STREAMS];

    // Key k on stream s has slot s * KEYS + k.
    private final boolean[] closedMark = new boolean[CLOSED_SLOTS];

    // A key is finished at most once, so there are never more results than keys.
    private final int[] keyOfResult = new int[KEYS];
    private final int[] pairsOfResult = new int[KEYS];
    private final int[] sumOfResult = new int[KEYS];
    private final int[] leastOfResult = new int[KEYS];
    private final int[] greatestOfResult = new int[KEYS];
    private int resultCount = 0;

    public PunctuatedQuery() {
    }

    public int feed(int stream, int key, int value) {
        if (!isStream(stream)) {
            return BAD_STREAM;
        }
        if (!isKey(key)) {
            return BAD_KEY;
        }
        if (value < -MOST_VALUE || value > MOST_VALUE) {
            return -3;
        }
        if (isClosed(stream, key)) {
            return -4;
        }
        if (heldCount[stream] >= MOST_HELD) {
            return -5;
        }
        int slot = stream * MOST_HELD + heldCount[stream];
        tupleKey[slot] = key;
        tupleValue[slot] = value;
        heldCount[stream]++;
        return heldCount[stream];
    }

    public int retract(int stream, int key, int value) {
        if (!isStream(stream)) {
            return BAD_STREAM;
        }
        if (!isKey(key)) {
            return BAD_KEY;
        }
        int start = stream * MOST_HELD;
        int end = start + heldCount[stream];
        for (int slot = start; slot < end; slot++) {
            if (tupleKey[slot] == key && tupleValue[slot] == value) {
                // The last tuple fills the hole, so that none is left.
                tupleKey[slot] = tupleKey[end - 1];
                tupleValue[slot] = tupleValue[end - 1];
                heldCount[stream]--;
                return heldCount[stream];
            }
        }
        return -3;
    }

    public int close(int stream, int first, int last) {
        if (!isStream(stream)) {
            return BAD_STREAM;
        }
        if (first < 0 || first > last || last >= KEYS) {
            return -2;
        }
        int finished = 0;
        for (int key = first; key <= last; key++) {
            // A key that is closed here already may be finished already; it must not
            // be finished a second time.
            if (isClosed(stream, key)) {
                continue;
            }
            closedMark[stream * KEYS + key] = true;
            if (isFinished(key)) {
                finishKey(key);
                finished++;
            }
        }
        return finished;
    }

    public int held(int stream) {
        return isStream(stream) ? heldCount[stream] : BAD_STREAM;
    }

    public int heldWith(int stream, int key) {
        if (!isStream(stream)) {
            return BAD_STREAM;
        }
        if (!isKey(key)) {
            return BAD_KEY;
        }
        return countTuples(stream, key);
    }

    public int closed(int stream, int key) {
        if (!isStream(stream)) {
            return BAD_STREAM;
        }
        if (!isKey(key)) {
            return BAD_KEY;
        }
        return isClosed(stream, key) ? 1 : 0;
    }

    public int results() {
        return resultCount;
    }

    public int resultKey(int i) {
        return isResult(i) ? keyOfResult[i] : NO_SUCH_RESULT;
    }

    public int resultPairs(int i) {
        return isResult(i) ? pairsOfResult[i] : NO_SUCH_RESULT;
    }

    public int resultSum(int i) {
        return isResult(i) ? sumOfResult[i] : 0;
    }

    public int resultLeast(int i) {
        return isResult(i) ? leastOfResult[i] : 0;
    }

    public int resultGreatest(int i) {
        return isResult(i) ? greatestOfResult[i] : 0;
    }

    public int pairs(int key) {
        return isKey(key) ? countPairs(key) : -1;
    }

    public int sum(int key) {
        return isKey(key) ? sumOfProducts(key) : 0;
    }

    public int least(int key) {
        return isKey(key) ? leastProduct(key) : LEAST_OF_NONE;
    }

    public int greatest(int key) {
        return isKey(key) ? greatestProduct(key) : GREATEST_OF_NONE;
    }

    public int pairsFrom(int bound) {
        int count = 0;
        for (int a = 0; a < heldCount[0]; a++) {
            for (int b = MOST_HELD; b < MOST_HELD + heldCount[1]; b++) {
                if (tupleKey[a] == tupleKey[b] && tupleValue[a] * tupleValue[b] >= bound) {
                    count++;
                }
            }
        }
        return count;
    }

    public int bandsFinished() {
        int count = 0;
        for (int band = 0; band < BANDS; band++) {
            if (isBandFinished(band)) {
                count++;
            }
        }
        return count;
    }

    public int bandSum(int band) {
        if (band < 0 || band >= BANDS) {
            return BAD_BAND;
        }
        if (!isBandFinished(band)) {
            return BAND_NOT_FINISHED;
        }
        int total = 0;
        for (int i = 0; i < resultCount; i++) {
            if (keyOfResult[i] / KEYS_IN_BAND == band) {
                total += sumOfResult[i];
            }
        }
        return total;
    }

    private static boolean isStream(int stream) {
        return stream >= 0 && stream < STREAMS;
    }

    private static boolean isKey(int key) {
        return key >= 0 && key < KEYS;
    }

    private boolean isResult(int i) {
        return i >= 0 && i < resultCount;
    }

    private boolean isClosed(int stream, int key) {
        return closedMark[stream * KEYS + key];
    }

    private boolean isFinished(int key) {
        return isClosed(0, key) && isClosed(1, key);
    }

    private boolean isBandFinished(int band) {
        int start = band * KEYS_IN_BAND;
        for (int key = start; key < start + KEYS_IN_BAND; key++) {
            if (!isFinished(key)) {
                return false;
            }
        }
        return true;
    }

    private void finishKey(int key) {
        if (countPairs(key) > 0) {
            putResult(key);
        }
        dropTuples(0, key);
        dropTuples(1, key);
    }

    private void putResult(int key) {
        // There is always room, since a key is finished only once; the index is looked at
        // all the same, as LANGUAGE.md asks, so that no call can throw.
        if (resultCount >= KEYS) {
            return;
        }
        keyOfResult[resultCount] = key;
        pairsOfResult[resultCount] = countPairs(key);
        sumOfResult[resultCount] = sumOfProducts(key);
        leastOfResult[resultCount] = leastProduct(key);
        greatestOfResult[resultCount] = greatestProduct(key);
        resultCount++;
    }

    private void dropTuples(int stream, int key) {
        int start = stream * MOST_HELD;
        int end = start + heldCount[stream];
        int kept = start;
        for (int slot = start; slot < end; slot++) {
            if (tupleKey[slot] != key) {
                tupleKey[kept] = tupleKey[slot];
                tupleValue[kept] = tupleValue[slot];
                kept++;
            }
        }
        heldCount[stream] = kept - start;
    }

    private int countTuples(int stream, int key) {
        int start = stream * MOST_HELD;
        int count = 0;
        for (int slot = start; slot < start + heldCount[stream]; slot++) {
            if (tupleKey[slot] == key) {
                count++;
            }
        }
        return count;
    }

    private int sumOfValues(int stream, int key) {
        int start = stream * MOST_HELD;
        int total = 0;
        for (int slot = start; slot < start + heldCount[stream]; slot++) {
            if (tupleKey[slot] == key) {
                total += tupleValue[slot];
            }
        }
        return total;
    }

    private int countPairs(int key) {
        return countTuples(0, key) * countTuples(1, key);
    }

    // Every tuple of one stream pairs with every one of the other, so the sum of the
    // products is the product of the sums.
    private int sumOfProducts(int key) {
        return sumOfValues(0, key) * sumOfValues(1, key);
    }

    // Products lie within -2500 .. 2500, so the answer for no pair is above them all.
    private int leastProduct(int key) {
        int lowest = LEAST_OF_NONE;
        for (int a = 0; a < heldCount[0]; a++) {
            for (int b = MOST_HELD; b < MOST_HELD + heldCount[1]; b++) {
                int product = tupleValue[a] * tupleValue[b];
                if (tupleKey[a] == key && tupleKey[b] == key && product < lowest) {
                    lowest = product;
                }
            }
        }
        return lowest;
    }

    // As above: the answer for no pair is below every product.
    private int greatestProduct(int key) {
        int highest = GREATEST_OF_NONE;
        for (int a = 0; a < heldCount[0]; a++) {
            for (int b = MOST_HELD; b < MOST_HELD + heldCount[1]; b++) {
                int product = tupleValue[a] * tupleValue[b];
                if (tupleKey[a] == key && tupleKey[b] == key && product > highest) {
                    highest = product;
                }
            }
        }
        return highest;
    }
}
