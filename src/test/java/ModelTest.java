import java.util.ArrayList;
import java.util.List;

/**
 * Long runs of calls against a model that follows the document's words pair by pair. The
 * calls come from a fixed rule of arithmetic, so every run of the test is the same.
 */
public final class ModelTest {
    private static final int RUNS = 3000;
    private static final int CALLS = 512;
    private static final int[] EDGES = {Integer.MIN_VALUE, -51, -50, -1, 0, 1, 2, 3, 4, 15, 16, 50, 51, Integer.MAX_VALUE};

    private static int wrong = 0;
    private static long seed = 1;

    private ModelTest() {
    }

    public static void main(String[] args) {
        for (int run = 0; run < RUNS && wrong < 20; run++) {
            seed = run * 7919L + 1;
            compare(run, CALLS);
        }
        // What calls after the 512th answer is free, but none may throw.
        seed = 5;
        PunctuatedQuery q = new PunctuatedQuery();
        for (int n = 0; n < 200000; n++) {
            int[] call = nextCall(n % 7);
            answer(q, call);
        }
        System.out.println(wrong == 0 ? "all answers are as due" : wrong + " answers are not as due");
        if (wrong != 0) {
            System.exit(1);
        }
    }

    private static void compare(int run, int calls) {
        PunctuatedQuery q = new PunctuatedQuery();
        Model model = new Model();
        for (int n = 0; n < calls; n++) {
            int[] call = nextCall(run);
            int got = answer(q, call);
            int want = model.answer(call);
            if (got != want) {
                wrong++;
                System.out.println("run " + run + ", call " + n + ": method " + call[0] + " (" + call[1] + ", "
                    + call[2] + ", " + call[3] + ") answered " + got + ", due is " + want);
                return;
            }
        }
    }

    private static int below(int bound) {
        seed = seed * 6364136223846793005L + 1442695040888963407L;
        return (int) ((seed >>> 33) % bound);
    }

    /** Method, then three arguments; runs differ in how often keys close and how values lie. */
    private static int[] nextCall(int run) {
        int pick = below(100);
        int keys = run % 3 == 0 ? 16 : run % 3 == 1 ? 4 : 2;
        int values = run % 2 == 0 ? 101 : 5;
        int closing = run % 5 == 0 ? 0 : run % 5 == 1 ? 10 : 2;
        int stream = below(2);
        int key = below(keys) * (16 / keys) % 16;
        int value = below(values) - values / 2;
        int[] call;
        if (pick < 40) {
            call = new int[] {2, stream, key, value};
        } else if (pick < 50) {
            call = new int[] {3, stream, key, value};
        } else if (pick < 50 + closing) {
            int first = below(16);
            call = new int[] {4, stream, first, first + below(16 - first) / (1 + below(4))};
        } else {
            call = question(stream, key);
        }
        if (below(12) == 0) {
            call[1 + below(3)] = EDGES[below(EDGES.length)];
        }
        return call;
    }

    private static int[] question(int stream, int key) {
        int method = 5 + below(16);
        switch (method) {
            case 5: case 6: case 7:
                return new int[] {method, stream, key, 0};
            case 9: case 10: case 11: case 12: case 13:
                return new int[] {method, below(18) - 1, 0, 0};
            case 18:
                return new int[] {method, below(2) == 0 ? below(9) - 4 : below(5002) - 2501, 0, 0};
            case 20:
                return new int[] {method, below(6) - 1, 0, 0};
            default:
                return new int[] {method, key, 0, 0};
        }
    }

    private static int answer(PunctuatedQuery q, int[] c) {
        switch (c[0]) {
            case 2: return q.feed(c[1], c[2], c[3]);
            case 3: return q.retract(c[1], c[2], c[3]);
            case 4: return q.close(c[1], c[2], c[3]);
            case 5: return q.held(c[1]);
            case 6: return q.heldWith(c[1], c[2]);
            case 7: return q.closed(c[1], c[2]);
            case 8: return q.results();
            case 9: return q.resultKey(c[1]);
            case 10: return q.resultPairs(c[1]);
            case 11: return q.resultSum(c[1]);
            case 12: return q.resultLeast(c[1]);
            case 13: return q.resultGreatest(c[1]);
            case 14: return q.pairs(c[1]);
            case 15: return q.sum(c[1]);
            case 16: return q.least(c[1]);
            case 17: return q.greatest(c[1]);
            case 18: return q.pairsFrom(c[1]);
            case 19: return q.bandsFinished();
            default: return q.bandSum(c[1]);
        }
    }

    /** The document in lists: a tuple is {key, value}, a result {key, pairs, sum, least, greatest}. */
    private static final class Model {
        private final List<List<int[]>> held = List.of(new ArrayList<>(), new ArrayList<>());
        private final boolean[][] closed = new boolean[2][16];
        private final List<int[]> results = new ArrayList<>();

        int answer(int[] c) {
            switch (c[0]) {
                case 2: return feed(c[1], c[2], c[3]);
                case 3: return retract(c[1], c[2], c[3]);
                case 4: return close(c[1], c[2], c[3]);
                case 5: return stream(c[1]) ? held.get(c[1]).size() : -1;
                case 6: return refusal(c) != 0 ? refusal(c) : (int) held.get(c[1]).stream().filter(t -> t[0] == c[2]).count();
                case 7: return refusal(c) != 0 ? refusal(c) : closed[c[1]][c[2]] ? 1 : 0;
                case 8: return results.size();
                case 9: return result(c[1], 0, -1);
                case 10: return result(c[1], 1, -1);
                case 11: return result(c[1], 2, 0);
                case 12: return result(c[1], 3, 0);
                case 13: return result(c[1], 4, 0);
                case 14: return key(c[1]) ? products(c[1]).size() : -1;
                case 15: return key(c[1]) ? products(c[1]).stream().mapToInt(p -> p).sum() : 0;
                case 16: return key(c[1]) ? products(c[1]).stream().mapToInt(p -> p).min().orElse(10000) : 10000;
                case 17: return key(c[1]) ? products(c[1]).stream().mapToInt(p -> p).max().orElse(-10000) : -10000;
                case 18: return from(c[1]);
                case 19: return bands();
                default: return bandSum(c[1]);
            }
        }

        private static boolean stream(int stream) {
            return stream == 0 || stream == 1;
        }

        private static boolean key(int key) {
            return 0 <= key && key <= 15;
        }

        private static int refusal(int[] c) {
            return !stream(c[1]) ? -1 : !key(c[2]) ? -2 : 0;
        }

        private int feed(int stream, int key, int value) {
            if (!stream(stream)) return -1;
            if (!key(key)) return -2;
            if (value < -50 || value > 50) return -3;
            if (closed[stream][key]) return -4;
            if (held.get(stream).size() == 40) return -5;
            held.get(stream).add(new int[] {key, value});
            return held.get(stream).size();
        }

        private int retract(int stream, int key, int value) {
            if (!stream(stream)) return -1;
            if (!key(key)) return -2;
            for (int[] tuple : held.get(stream)) {
                if (tuple[0] == key && tuple[1] == value) {
                    held.get(stream).remove(tuple);
                    return held.get(stream).size();
                }
            }
            return -3;
        }

        private int close(int stream, int first, int last) {
            if (!stream(stream)) return -1;
            if (!(0 <= first && first <= last && last <= 15)) return -2;
            int count = 0;
            for (int key = first; key <= last; key++) {
                boolean before = finished(key);
                closed[stream][key] = true;
                if (finished(key) && !before) {
                    finish(key);
                    count++;
                }
            }
            return count;
        }

        private void finish(int key) {
            List<Integer> products = products(key);
            if (!products.isEmpty()) {
                results.add(new int[] {key, products.size(), products.stream().mapToInt(p -> p).sum(),
                    products.stream().mapToInt(p -> p).min().getAsInt(), products.stream().mapToInt(p -> p).max().getAsInt()});
            }
            held.forEach(tuples -> tuples.removeIf(t -> t[0] == key));
        }

        private boolean finished(int key) {
            return closed[0][key] && closed[1][key];
        }

        private List<Integer> products(int key) {
            List<Integer> products = new ArrayList<>();
            for (int[] a : held.get(0)) {
                for (int[] b : held.get(1)) {
                    if (a[0] == key && b[0] == key) {
                        products.add(a[1] * b[1]);
                    }
                }
            }
            return products;
        }

        private int result(int i, int column, int none) {
            return 0 <= i && i < results.size() ? results.get(i)[column] : none;
        }

        private int from(int bound) {
            int count = 0;
            for (int key = 0; key < 16; key++) {
                count += (int) products(key).stream().filter(p -> p >= bound).count();
            }
            return count;
        }

        private boolean bandFinished(int band) {
            return finished(4 * band) && finished(4 * band + 1) && finished(4 * band + 2) && finished(4 * band + 3);
        }

        private int bands() {
            int count = 0;
            for (int band = 0; band < 4; band++) {
                count += bandFinished(band) ? 1 : 0;
            }
            return count;
        }

        private int bandSum(int band) {
            if (band < 0 || band > 3) return -1000000;
            if (!bandFinished(band)) return -2000000;
            return results.stream().filter(r -> r[0] >= 4 * band && r[0] <= 4 * band + 3).mapToInt(r -> r[2]).sum();
        }
    }
}
