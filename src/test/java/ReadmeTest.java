/** The example of README.md, line by line: what it tells a reader must be what the class answers. */
public final class ReadmeTest {
    private static int wrong = 0;

    public static void main(String[] args) {
        PunctuatedQuery query = new PunctuatedQuery();
        due("feed(0, 3, 5)", query.feed(0, 3, 5), 1);
        due("feed(1, 3, 4)", query.feed(1, 3, 4), 1);
        due("feed(1, 3, -2)", query.feed(1, 3, -2), 2);
        due("feed(1, 3, 60)", query.feed(1, 3, 60), -3);
        due("pairs(3)", query.pairs(3), 2);
        due("sum(3)", query.sum(3), 10);
        due("pairsFrom(0)", query.pairsFrom(0), 1);
        due("close(0, 0, 3)", query.close(0, 0, 3), 0);
        due("feed(0, 3, 1)", query.feed(0, 3, 1), -4);
        due("close(1, 0, 3)", query.close(1, 0, 3), 4);
        due("results()", query.results(), 1);
        due("resultKey(0)", query.resultKey(0), 3);
        due("resultLeast(0)", query.resultLeast(0), -10);
        due("resultGreatest(0)", query.resultGreatest(0), 20);
        due("held(1)", query.held(1), 0);
        due("bandsFinished()", query.bandsFinished(), 1);
        due("bandSum(0)", query.bandSum(0), 10);
        System.out.println(wrong == 0 ? "all answers are as due" : wrong + " answers are not as due");
        if (wrong != 0) {
            System.exit(1);
        }
    }

    private static void due(String call, int got, int want) {
        if (got != want) {
            wrong++;
            System.out.println(call + " answered " + got + ", due is " + want);
        }
    }
}
