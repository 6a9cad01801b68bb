import java.util.ArrayList;
import java.util.Arrays;
import java.util.List;

/**
 * Sentences of the document on how the answers hang together: with each other,
 * with what was set and asked before, and with those of other objects.
 */
public final class SentenceTest {
    private static final int MANY = 300;
    private static final int FEW = 60;
    private static final List<Question> QUESTIONS = questions();
    private static long seed = 20261116L;
    private static long checked = 0;
    private static long wrong = 0;

    private enum Kind { UNIQUE, CLOSED, LAW, CHANCE_UPPER, CHANCE_LOWER, TIME_UPPER, TIME_LOWER }

    private record Question(Kind kind, int i, int t, int u) {
        long of(ChainLaws x) {
            return switch (kind) {
                case UNIQUE -> x.unique();
                case CLOSED -> x.closed(i);
                case LAW -> x.law(i);
                case CHANCE_UPPER -> x.chanceUpper(i, t, u);
                case CHANCE_LOWER -> x.chanceLower(i, t, u);
                case TIME_UPPER -> x.timeUpper(i, t);
                case TIME_LOWER -> x.timeLower(i, t);
            };
        }
    }

    /** Every question whose arguments are as said. */
    private static List<Question> questions() {
        List<Question> all = new ArrayList<>();
        all.add(new Question(Kind.UNIQUE, 0, 0, 0));
        for (int i = 0; i < 4; i++) {
            all.add(new Question(Kind.CLOSED, i, 0, 0));
            all.add(new Question(Kind.LAW, i, 0, 0));
            for (int t = 0; t < 4; t++) {
                all.add(new Question(Kind.TIME_UPPER, i, t, 0));
                all.add(new Question(Kind.TIME_LOWER, i, t, 0));
                for (int u = 0; u < 4; u++) {
                    if (t != u) {
                        all.add(new Question(Kind.CHANCE_UPPER, i, t, u));
                        all.add(new Question(Kind.CHANCE_LOWER, i, t, u));
                    }
                }
            }
        }
        return all;
    }

    private static int next(int bound) {
        seed = seed * 6364136223846793005L + 1442695040888963407L;
        return (int) ((seed >>> 33) % bound);
    }

    private static int[][] someRates() {
        int[][] rates = new int[4][4];
        int zeros = next(8);
        for (int i = 0; i < 4; i++) {
            for (int j = 0; j < 4; j++) {
                rates[i][j] = i == j || next(8) < zeros ? 0 : next(10);
            }
        }
        return rates;
    }

    private static int outflow(int[][] rates, int i) {
        return Arrays.stream(rates[i]).sum();
    }

    /** Sets one of the twelve rates; pairs of different states are numbered from 0 to 11. */
    private static void setPair(ChainLaws x, int[][] rates, int pair) {
        int i = pair / 3;
        int j = (i + 1 + pair % 3) % 4;
        x.rate(i, j, rates[i][j]);
    }

    private static ChainLaws chain(int[][] rates) {
        ChainLaws x = new ChainLaws();
        for (int pair = 0; pair < 12; pair++) {
            setPair(x, rates, pair);
        }
        return x;
    }

    /** What each question answers if it is the only one that is asked. */
    private static long[] askedAlone(int[][] rates) {
        return QUESTIONS.stream().mapToLong(q -> q.of(chain(rates))).toArray();
    }

    private static void same(String what, int[][] rates, long got, long want) {
        checked++;
        if (got != want) {
            wrong++;
            if (wrong <= 40) {
                System.out.println("  " + Arrays.deepToString(rates) + ": " + what
                        + " answered " + got + ", due is " + want);
            }
        }
    }

    private static void sameAsAlone(String when, int[][] rates, ChainLaws x, long[] alone) {
        for (int k = 0; k < alone.length; k++) {
            Question q = QUESTIONS.get(k);
            same(q + " " + when, rates, q.of(x), alone[k]);
        }
    }

    /** Whether fraction i times the outflow of i is first + the sum of rate times fraction over the others. */
    private static void byOneJump(String what, int[][] rates, int i, long first, long[] upper, long[] lower) {
        long common = lower[0] * lower[1] * lower[2] * lower[3];
        long sum = first * common;
        for (int j = 0; j < 4; j++) {
            sum += rates[i][j] * upper[j] * (common / lower[j]);
        }
        same(what, rates, outflow(rates, i) * upper[i] * (common / lower[i]), sum);
    }

    private static void chancesByOneJump() {
        for (int n = 0; n < MANY; n++) {
            int[][] rates = someRates();
            ChainLaws x = chain(rates);
            for (int t = 0; t < 4; t++) {
                for (int u = 0; u < 4; u++) {
                    if (t != u) {
                        chancesByOneJump(x, rates, t, u);
                    }
                }
            }
        }
    }

    private static void chancesByOneJump(ChainLaws x, int[][] rates, int t, int u) {
        long[] upper = new long[4];
        long[] lower = new long[4];
        for (int i = 0; i < 4; i++) {
            upper[i] = x.chanceUpper(i, t, u);
            lower[i] = x.chanceLower(i, t, u);
        }
        for (int i = 0; i < 4; i++) {
            if (i != t && i != u) {
                byOneJump("from " + i + " to " + t + " and not " + u + ", the sum", rates, i, 0, upper, lower);
            }
        }
    }

    private static void timesByOneJump() {
        for (int n = 0; n < MANY; n++) {
            int[][] rates = someRates();
            ChainLaws x = chain(rates);
            for (int t = 0; t < 4; t++) {
                long[] upper = new long[4];
                long[] lower = new long[4];
                for (int i = 0; i < 4; i++) {
                    upper[i] = x.timeUpper(i, t);
                    lower[i] = x.timeLower(i, t);
                }
                for (int i = 0; i < 4; i++) {
                    if (i != t) {
                        timeByOneJump(rates, i, t, upper.clone(), lower.clone());
                    }
                }
            }
        }
    }

    private static void timeByOneJump(int[][] rates, int i, int t, long[] upper, long[] lower) {
        boolean none = outflow(rates, i) == 0;
        for (int j = 0; j < 4; j++) {
            if (rates[i][j] > 0) {
                none |= upper[j] == -1;
            } else if (j != i) {
                upper[j] = 0;
                lower[j] = 1;
            }
        }
        String what = "from " + i + " to " + t + ", the ";
        same(what + "numerator being -1", rates, upper[i] == -1 ? 1 : 0, none ? 1 : 0);
        same(what + "denominator being -1", rates, lower[i] == -1 ? 1 : 0, none ? 1 : 0);
        if (!none) {
            byOneJump(what + "sum", rates, i, 1, upper, lower);
        }
    }

    /** Other rates before, other orders, and questions before or between make no difference. */
    private static void answersComeFromTheRatesAlone() {
        for (int n = 0; n < FEW; n++) {
            int[][] rates = someRates();
            long[] alone = askedAlone(rates);
            for (int step : new int[] {1, 5, 7, 11}) {
                ChainLaws quiet = chain(someRates());
                ChainLaws before = chain(someRates());
                ChainLaws between = chain(someRates());
                QUESTIONS.forEach(q -> q.of(before));
                for (int k = 0; k < 12; k++) {
                    setPair(quiet, rates, k * step % 12);
                    setPair(before, rates, k * step % 12);
                    setPair(between, rates, k * step % 12);
                    QUESTIONS.get(next(QUESTIONS.size())).of(between);
                }
                sameAsAlone("after other rates", rates, quiet, alone);
                sameAsAlone("after questions on other rates", rates, before, alone);
                sameAsAlone("after questions between the rates", rates, between, alone);
            }
        }
    }

    private static void theDenominatorIsOfTheSameFraction() {
        // In a row of states, even both ways, the chances are thirds; down a line
        // at the rates 2, 3 and 4 the times are 1/2, 5/6 and 13/12.
        int[][] row = {{0, 1, 0, 0}, {1, 0, 1, 0}, {0, 1, 0, 1}, {0, 0, 1, 0}};
        int[][] line = {{0, 2, 0, 0}, {0, 0, 3, 0}, {0, 0, 0, 4}, {0, 0, 0, 0}};
        same("chanceLower(1, 0, 3) alone", row, chain(row).chanceLower(1, 0, 3), 3);
        same("chanceLower(0, 1, 3) alone", row, chain(row).chanceLower(0, 1, 3), 1);
        same("timeLower(0, 1) alone", line, chain(line).timeLower(0, 1), 2);
        same("timeLower(0, 2) alone", line, chain(line).timeLower(0, 2), 6);
        same("timeLower(0, 3) alone", line, chain(line).timeLower(0, 3), 12);
        same("timeLower(3, 0) alone", line, chain(line).timeLower(3, 0), -1);
        ChainLaws x = chain(line);
        x.timeUpper(0, 1);
        x.chanceUpper(0, 1, 2);
        same("timeLower(0, 3) after other numerators", line, x.timeLower(0, 3), 12);
        same("chanceLower(0, 1, 2) after a denominator of time", line, x.chanceLower(0, 1, 2), 1);
        same("timeLower(0, 2) after a denominator of chance", line, x.timeLower(0, 2), 6);
    }

    /** Each question after each other one answers what it answers alone. */
    private static void questionsChangeNothing() {
        for (int n = 0; n < FEW; n++) {
            int[][] rates = someRates();
            long[] alone = askedAlone(rates);
            for (Question first : QUESTIONS) {
                for (int k = 0; k < alone.length; k++) {
                    Question second = QUESTIONS.get(k);
                    ChainLaws x = chain(rates);
                    first.of(x);
                    same(second + " after " + first, rates, second.of(x), alone[k]);
                }
                ChainLaws x = chain(rates);
                first.of(x);
                sameAsAlone("in a row after " + first, rates, x, alone);
            }
        }
    }

    private static void objectsAreApart() {
        for (int n = 0; n < MANY; n++) {
            int[][] rates = someRates();
            int[][] others = someRates();
            ChainLaws x = new ChainLaws();
            ChainLaws y = new ChainLaws();
            for (int pair = 0; pair < 12; pair++) {
                setPair(x, rates, pair);
                setPair(y, others, pair);
            }
            long[] alone = askedAlone(rates);
            long[] othersAlone = askedAlone(others);
            for (int k = 0; k < alone.length; k++) {
                Question q = QUESTIONS.get(k);
                same(q + " of the first of two", rates, q.of(x), alone[k]);
                same(q + " of the second of two", others, q.of(y), othersAlone[k]);
            }
        }
    }

    private static void sentence(String words, Runnable test) {
        long wrongBefore = wrong;
        long checkedBefore = checked;
        try {
            test.run();
        } catch (RuntimeException e) {
            wrong++;
            System.out.println("  the test ended with " + e);
        }
        if (wrong != wrongBefore || checked == checkedBefore) {
            wrong += checked == checkedBefore ? 1 : 0;
            System.out.println("BROKEN: " + words);
        }
    }

    public static void main(String[] args) {
        sentence("What it is: an object is used for its own calls", SentenceTest::objectsAreApart);
        sentence("Terms: it jumps with the chance rate / outflow, whatever happened before",
                SentenceTest::chancesByOneJump);
        sentence("Promise 2: sets the rate, and all else follows from the rates",
                SentenceTest::answersComeFromTheRatesAlone);
        sentence("Promises 7 and 9: the denominator of the same", SentenceTest::theDenominatorIsOfTheSameFraction);
        sentence("Promise 8: the sum of the mean stays on the way, in the mean", SentenceTest::timesByOneJump);
        sentence("Not promised: no state changes but those described", SentenceTest::questionsChangeNothing);
        System.out.println(checked + " answers looked at, " + wrong + " not as due");
        if (wrong != 0) {
            System.exit(1);
        }
    }
}
