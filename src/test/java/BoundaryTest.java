import java.util.ArrayList;
import java.util.Arrays;
import java.util.List;
import java.util.function.Consumer;

/**
 * The boundary cases of the document: each sentence that names one has a test of
 * its own, told in main by the sentence's words.
 */
public final class BoundaryTest {
    private static final int MOST_CALLS = 512;
    private static final int LEAST = Integer.MIN_VALUE;
    private static final int GREATEST = Integer.MAX_VALUE;

    // After the neighbours of the bounds and the utmost ints come numbers that
    // would pass for a state or a rate once cut short or multiplied by 4.
    private static final int[] NO_STATES = {-1, 4, LEAST, GREATEST, -4, 5, 7, 15, 16, 256, 65536,
        1 << 28, 1 << 30, (1 << 30) + 1, -(1 << 30), LEAST + 1, LEAST + 3, GREATEST - 1};
    private static final int[] NO_RATES = {-1, 10, LEAST, GREATEST, -9, 11, 16, 255, 256, 257, 65536,
        LEAST + 1, LEAST + 9, GREATEST - 1};
    private static final int[] NEAR_AND_UTMOST = {-1, 4, LEAST, GREATEST};

    private static final int RATE = 0;
    private static final int CLOSED = 1;
    private static final int UNIQUE = 2;
    private static final int LAW = 3;
    private static final int CHANCE_UPPER = 4;
    private static final int CHANCE_LOWER = 5;
    private static final int TIME_UPPER = 6;
    private static final int TIME_LOWER = 7;
    private static final String[] NAMES = {"rate", "closed", "unique", "law",
        "chanceUpper", "chanceLower", "timeUpper", "timeLower"};

    // Rows of the form i, j, rate.
    private static final int[] NONE = {};
    private static final int[] ORDINARY = {0, 1, 2, 1, 2, 3, 2, 0, 1, 2, 3, 4, 3, 0, 5};
    private static final int[] FULL = {0, 1, 9, 0, 2, 9, 0, 3, 9, 1, 0, 9, 1, 2, 9, 1, 3, 9,
        2, 0, 9, 2, 1, 9, 2, 3, 9, 3, 0, 9, 3, 1, 9, 3, 2, 9};
    private static final int[] TWO_PAIRS = {0, 1, 4, 1, 0, 6, 2, 3, 7, 3, 2, 1};
    private static final int[] ONE_END = {0, 1, 1, 0, 2, 8, 1, 2, 3, 2, 1, 5, 2, 3, 2};
    private static final int[][] CHAINS = {NONE, ORDINARY, FULL, TWO_PAIRS, ONE_END};

    private static final int[] PLAIN = {0, 1, 2, 3};
    private static final List<int[]> ORDERS = orders();

    private static int sentences = 0;
    private static int broken = 0;
    private static long checked = 0;
    private static long wrong = 0;

    /**
     * A ChainLaws that is told and asked about its states under other names, and
     * that counts its calls, since after the 512th the answers are free.
     */
    private static final class Chain {
        private final ChainLaws object = new ChainLaws();
        private final int[] order;
        private final int[][] rates = new int[4][4];
        private int calls = 0;

        Chain(int[] order, int... rows) {
            this.order = order;
            for (int k = 0; k < rows.length; k += 3) {
                rate(0, rows[k], rows[k + 1], rows[k + 2]);
            }
        }

        /** The bare call, with no name changed. */
        long answer(int method, int... a) {
            calls++;
            if (calls > MOST_CALLS) {
                throw new IllegalStateException("this test makes more than 512 calls");
            }
            return switch (method) {
                case RATE -> object.rate(a[0], a[1], a[2]);
                case CLOSED -> object.closed(a[0]);
                case UNIQUE -> object.unique();
                case LAW -> object.law(a[0]);
                case CHANCE_UPPER -> object.chanceUpper(a[0], a[1], a[2]);
                case CHANCE_LOWER -> object.chanceLower(a[0], a[1], a[2]);
                case TIME_UPPER -> object.timeUpper(a[0], a[1]);
                default -> object.timeLower(a[0], a[1]);
            };
        }

        Chain due(long want, int method, int... a) {
            same(text(method, a), answer(method, a), want);
            return this;
        }

        Chain rate(int before, int i, int j, int rate) {
            due(before, RATE, order[i], order[j], rate);
            rates[order[i]][order[j]] = rate;
            return this;
        }

        Chain closed(int... want) {
            for (int i = 0; i < 4; i++) {
                due(want[i], CLOSED, order[i]);
            }
            return this;
        }

        Chain law(int... want) {
            due(1, UNIQUE);
            for (int i = 0; i < 4; i++) {
                due(want[i], LAW, order[i]);
            }
            return this;
        }

        Chain noLaw() {
            due(0, UNIQUE);
            for (int i = 0; i < 4; i++) {
                due(-1, LAW, order[i]);
            }
            return this;
        }

        Chain chance(int upper, int lower, int i, int t, int u) {
            due(upper, CHANCE_UPPER, order[i], order[t], order[u]);
            return due(lower, CHANCE_LOWER, order[i], order[t], order[u]);
        }

        Chain time(int upper, int lower, int i, int t) {
            due(upper, TIME_UPPER, order[i], order[t]);
            return due(lower, TIME_LOWER, order[i], order[t]);
        }

        Chain noTime(int i, int t) {
            return time(-1, -1, i, t);
        }

        /** All that can be seen from outside; a rate is read by setting it to what it should be. */
        List<Long> seen() {
            List<Long> all = new ArrayList<>();
            for (int i = 0; i < 4; i++) {
                for (int j = 0; j < 4; j++) {
                    if (i != j) {
                        all.add(answer(RATE, i, j, rates[i][j]));
                    }
                }
            }
            all.add(answer(UNIQUE));
            for (int i = 0; i < 4; i++) {
                all.add(answer(CLOSED, i));
                all.add(answer(LAW, i));
                for (int t = 0; t < 4; t++) {
                    all.add(answer(TIME_UPPER, i, t));
                    all.add(answer(TIME_LOWER, i, t));
                    for (int u = 0; u < 4; u++) {
                        if (t != u) {
                            all.add(answer(CHANCE_UPPER, i, t, u));
                            all.add(answer(CHANCE_LOWER, i, t, u));
                        }
                    }
                }
            }
            return all;
        }
    }

    private static List<int[]> orders() {
        List<int[]> all = new ArrayList<>();
        for (int k = 0; k < 256; k++) {
            int[] order = {k & 3, k >> 2 & 3, k >> 4 & 3, k >> 6};
            if (Arrays.stream(order).distinct().count() == 4) {
                all.add(order);
            }
        }
        return all;
    }

    private static void inEachOrder(Consumer<int[]> test) {
        ORDERS.forEach(test);
    }

    /** Each way to choose three rates. */
    private static void forThreeRates(Consumer<int[]> test) {
        for (int k = 0; k < 1000; k++) {
            test.accept(new int[] {k % 10, k / 10 % 10, k / 100});
        }
    }

    /** Each way in which some rates are 0 and the others the given one. */
    private static void forEachPattern(int rate, Consumer<Chain> test) {
        for (int pattern = 0; pattern < 4096; pattern++) {
            Chain x = new Chain(PLAIN);
            int bits = pattern;
            for (int i = 0; i < 4; i++) {
                for (int j = 0; j < 4; j++) {
                    if (i != j) {
                        x.rate(0, i, j, (bits & 1) * rate);
                        bits >>= 1;
                    }
                }
            }
            test.accept(x);
        }
    }

    private static String text(int method, int... a) {
        String inside = Arrays.toString(a);
        return NAMES[method] + "(" + inside.substring(1, inside.length() - 1) + ")";
    }

    private static void same(String what, Object got, Object want) {
        checked++;
        if (!got.equals(want)) {
            wrong++;
            if (wrong <= 40) {
                System.out.println("  " + what + " answered " + got + ", due is " + want);
            }
        }
    }

    private static long divisor(long a, long b) {
        return b == 0 ? a : divisor(b, a % b);
    }

    /** The call answers -1 and changes nothing, both as the first question and after all others. */
    private static void refused(int[] rows, int method, int... a) {
        List<Long> want = new Chain(PLAIN, rows).seen();
        Chain first = new Chain(PLAIN, rows).due(-1, method, a);
        same("after " + text(method, a) + " all", first.seen(), want);
        Chain later = new Chain(PLAIN, rows);
        later.seen();
        later.due(-1, method, a).due(-1, method, a);
        same("after two times " + text(method, a) + " all", later.seen(), want);
    }

    private static int[] arguments(int method, int k) {
        return switch (method) {
            case RATE -> new int[] {k, (k + 1) % 4, 1 + k};
            case CHANCE_UPPER, CHANCE_LOWER -> new int[] {k, (k + 1) % 4, (k + 2) % 4};
            case TIME_UPPER, TIME_LOWER -> new int[] {k, (k + 1) % 4};
            case UNIQUE -> new int[0];
            default -> new int[] {k};
        };
    }

    private static int[] renamed(int[] order, int[] rows) {
        int[] other = rows.clone();
        for (int k = 0; k < rows.length; k += 3) {
            other[k] = order[rows[k]];
            other[k + 1] = order[rows[k + 1]];
        }
        return other;
    }

    /** Each number that is no state, in one place, the other arguments being right. */
    private static void noStateRefused(int method, int place) {
        for (int bad : NO_STATES) {
            for (int[] rows : CHAINS) {
                for (int k = 0; k < 4; k++) {
                    int[] a = arguments(method, k);
                    a[place] = bad;
                    refused(rows, method, a);
                }
            }
        }
    }

    // What it is

    private static void upToTheLastOf512Calls() {
        int[][] calls = {{RATE, 0, 1, 2}, {CLOSED, 0}, {UNIQUE}, {LAW, 0}, {CHANCE_UPPER, 1, 0, 3},
            {CHANCE_LOWER, 1, 0, 3}, {TIME_UPPER, 0, 3}, {TIME_LOWER, 0, 3}, {CLOSED, 4}, {RATE, 0, 1, 10}};
        int[] want = {2, 1, 1, 75, 1, 5, 31, 24, -1, -1};
        for (int begin = 0; begin < calls.length; begin++) {
            for (int step = 0; step < 2; step++) {
                Chain x = new Chain(PLAIN, ORDINARY);
                for (int k = begin; x.calls < MOST_CALLS; k = (k + step) % calls.length) {
                    x.due(want[k], calls[k][0], Arrays.copyOfRange(calls[k], 1, calls[k].length));
                }
            }
        }
    }

    // Terms

    private static void statesAre0To3() {
        inEachOrder(o -> new Chain(o, 0, 1, 1, 1, 2, 1, 2, 3, 1)
                .closed(0, 0, 0, 1).law(0, 0, 0, 1).chance(1, 1, 1, 2, 3).time(3, 1, 0, 3).rate(1, 0, 1, 1));
        for (int bad : NEAR_AND_UTMOST) {
            refused(ORDINARY, RATE, bad, 3, 1);
            refused(ORDINARY, RATE, 3, bad, 1);
            refused(ORDINARY, CLOSED, bad);
            refused(ORDINARY, LAW, bad);
            for (int method = CHANCE_UPPER; method <= CHANCE_LOWER; method++) {
                refused(ORDINARY, method, bad, 0, 3);
                refused(ORDINARY, method, 0, bad, 3);
                refused(ORDINARY, method, 0, 3, bad);
            }
            for (int method = TIME_UPPER; method <= TIME_LOWER; method++) {
                refused(ORDINARY, method, bad, 3);
                refused(ORDINARY, method, 3, bad);
            }
        }
    }

    private static void aRateForEachTwoDifferentStates() {
        Chain x = new Chain(PLAIN);
        for (int k = 0; k < 2; k++) {
            for (int i = 0; i < 4; i++) {
                for (int j = 0; j < 4; j++) {
                    if (i != j) {
                        x.due(k == 0 ? 0 : (3 * i + j) % 10, RATE, i, j, (3 * i + j) % 10);
                    }
                }
            }
        }
    }

    private static void ratesAreFrom0To9() {
        inEachOrder(o -> new Chain(o).rate(0, 0, 1, 0).rate(0, 0, 1, 9).time(1, 9, 0, 1)
                .rate(9, 0, 1, 1).time(1, 1, 0, 1).rate(1, 0, 1, 0).noTime(0, 1).rate(0, 0, 1, 0));
    }

    private static void outflowsFrom0To27() {
        // What jumps out of 0 all comes through 3, where the stay is 1.
        forThreeRates(r -> new Chain(PLAIN, 0, 1, r[0], 0, 2, r[1], 0, 3, r[2], 1, 2, 1, 2, 3, 1, 3, 0, 1)
                .law(1, r[0], r[0] + r[1], r[0] + r[1] + r[2]));
        inEachOrder(o -> new Chain(o, 0, 1, 9, 0, 2, 9, 0, 3, 9, 1, 2, 1, 2, 3, 1, 3, 0, 1).law(1, 9, 18, 27));
    }

    private static void jumpsWithTheChanceRateThroughOutflow() {
        forThreeRates(r -> {
            int sum = r[0] + r[1] + r[2];
            if (sum > 0) {
                int d = (int) divisor(r[0], sum);
                new Chain(PLAIN, 0, 1, r[0], 0, 2, r[1], 0, 3, r[2]).chance(r[0] / d, sum / d, 0, 1, 2);
            }
        });
        inEachOrder(o -> new Chain(o, 0, 1, 1, 0, 2, 9, 0, 3, 9).chance(1, 19, 0, 1, 2).chance(9, 19, 0, 3, 1));
        inEachOrder(o -> new Chain(o, 0, 1, 1).chance(1, 1, 0, 1, 2).chance(0, 1, 0, 2, 1).closed(0, 1, 1, 1));
    }

    private static void withOutflow0ItStaysForEver() {
        inEachOrder(o -> new Chain(o, 1, 0, 9, 1, 2, 9, 1, 3, 9, 2, 0, 9, 2, 1, 9, 2, 3, 9, 3, 0, 9, 3, 1, 9, 3, 2, 9)
                .closed(1, 0, 0, 0).law(1, 0, 0, 0).noTime(0, 1).noTime(0, 2).chance(0, 1, 0, 1, 2).time(1, 9, 1, 0));
        inEachOrder(o -> new Chain(o, 0, 1, 1, 0, 3, 3).chance(1, 4, 0, 1, 2).chance(0, 1, 0, 2, 1).noTime(0, 1));
        inEachOrder(o -> new Chain(o, 0, 1, 1).closed(0, 1, 1, 1).rate(1, 0, 1, 0).closed(1, 1, 1, 1));
    }

    private static void meanStaysFromOneTo1Through27() {
        // One stay in 0, and one of length 1 more if it jumps to 1 or 2.
        forThreeRates(r -> {
            int sum = r[0] + r[1] + r[2];
            if (sum > 0) {
                int above = 1 + r[0] + r[1];
                int d = (int) divisor(above, sum);
                new Chain(PLAIN, 0, 1, r[0], 0, 2, r[1], 0, 3, r[2], 1, 3, 1, 2, 3, 1).time(above / d, sum / d, 0, 3);
            }
        });
        inEachOrder(o -> new Chain(o, 0, 1, 9, 0, 2, 9, 0, 3, 9, 1, 3, 1, 2, 3, 1).time(19, 27, 0, 3));
    }

    private static void reachedWithoutAJumpOrByRatesAbove0() {
        new Chain(PLAIN).closed(1, 1, 1, 1).time(0, 1, 2, 2);
        // Three jumps at the least rate, which is the longest way there can be.
        inEachOrder(o -> new Chain(o, 0, 1, 1, 1, 2, 1, 2, 3, 1).closed(0, 0, 0, 1).time(3, 1, 0, 3)
                .rate(0, 3, 0, 1).closed(1, 1, 1, 1)
                .rate(1, 1, 2, 0).closed(0, 1, 0, 0).noTime(0, 3));
    }

    private static void closedIfAllLeadsBack() {
        inEachOrder(o -> new Chain(o).closed(1, 1, 1, 1)
                .rate(0, 0, 1, 1).closed(0, 1, 1, 1)
                .rate(0, 1, 0, 1).closed(1, 1, 1, 1)
                .rate(0, 1, 2, 1).closed(0, 0, 1, 1)
                .rate(0, 2, 0, 1).closed(1, 1, 1, 1)
                .rate(0, 2, 3, 1).closed(0, 0, 0, 1)
                .rate(0, 3, 2, 1).closed(1, 1, 1, 1));
        inEachOrder(o -> new Chain(o, 0, 1, 9, 1, 0, 9, 1, 2, 9, 2, 1, 9, 2, 3, 1).closed(0, 0, 0, 1));
    }

    private static void lawsAreInLowestTermsAndBalance() {
        inEachOrder(o -> new Chain(o, 0, 1, 9, 1, 2, 9, 2, 3, 9).law(0, 0, 0, 1));
        inEachOrder(o -> new Chain(o, 0, 1, 9, 1, 2, 9, 2, 3, 6, 3, 2, 4).law(0, 0, 2, 3));
        inEachOrder(o -> new Chain(o, 0, 1, 9, 1, 2, 9, 2, 3, 9, 1, 0, 1, 2, 1, 1, 3, 2, 1).law(1, 9, 81, 729));
        new Chain(PLAIN, FULL).law(1, 1, 1, 1);
        // No greater number of a law was found by climbing over the rates.
        inEachOrder(o -> {
            Chain x = new Chain(o, 0, 1, 2, 0, 2, 3, 0, 3, 2, 1, 0, 9, 1, 2, 8, 1, 3, 9,
                    2, 0, 9, 2, 1, 9, 2, 3, 9, 3, 0, 9, 3, 1, 8, 3, 2, 9);
            x.due(11025, LAW, o[0]);
            isLaw(x);
        });
        for (int rate : new int[] {1, 6, 9}) {
            forEachPattern(rate, x -> {
                if (x.answer(UNIQUE) == 1) {
                    isLaw(x);
                }
            });
        }
    }

    private static void isLaw(Chain x) {
        long[] law = new long[4];
        long d = 0;
        for (int i = 0; i < 4; i++) {
            law[i] = x.answer(LAW, i);
            same("law(" + i + ") being 0 or more", law[i] >= 0, true);
            d = divisor(d, law[i]);
        }
        same("the common divisor of the law", d, 1L);
        for (int j = 0; j < 4; j++) {
            long in = 0;
            long out = 0;
            for (int i = 0; i < 4; i++) {
                in += law[i] * x.rates[i][j];
                out += law[j] * x.rates[j][i];
            }
            same("the balance of " + j, in, out);
        }
    }

    private static void fractionsAreInLowestTerms() {
        inEachOrder(o -> new Chain(o, 0, 1, 9, 0, 2, 9).chance(1, 2, 0, 1, 2).chance(0, 1, 0, 3, 1)
                .chance(0, 1, 3, 1, 2).rate(9, 0, 2, 0).chance(1, 1, 0, 1, 2).time(1, 9, 0, 1).time(0, 1, 0, 0));
        // The longest mean time that climbing over the rates found: a whole number.
        inEachOrder(o -> new Chain(o, 0, 2, 1, 1, 0, 9, 1, 2, 9, 1, 3, 1, 2, 0, 9, 2, 1, 1).time(201, 1, 0, 3));
        for (int rate : new int[] {1, 6, 9}) {
            forEachPattern(rate, x -> {
                for (int i = 0; i < 4; i++) {
                    for (int t = 0; t < 4; t++) {
                        isFraction(x.answer(TIME_UPPER, i, t), x.answer(TIME_LOWER, i, t), true);
                        for (int u = 0; u < 4; u++) {
                            if (t != u) {
                                isFraction(x.answer(CHANCE_UPPER, i, t, u), x.answer(CHANCE_LOWER, i, t, u), false);
                            }
                        }
                    }
                }
            });
        }
    }

    private static void isFraction(long upper, long lower, boolean mayBeNone) {
        if (mayBeNone && upper == -1) {
            same("the denominator without a numerator", lower, -1L);
            return;
        }
        same("a numerator of 0 or more", upper >= 0, true);
        same("a denominator of 1 or more", lower >= 1, true);
        same("the common divisor of " + upper + " and " + lower, divisor(lower, upper), 1L);
    }

    private static void wrongArgumentsAreRefused() {
        for (int bad : NEAR_AND_UTMOST) {
            for (int k = 0; k < 4; k++) {
                eachOneWrong(bad, k);
            }
        }
        for (int one : NEAR_AND_UTMOST) {
            for (int two : NEAR_AND_UTMOST) {
                for (int k = 0; k < 4; k++) {
                    severalWrong(one, two, k);
                }
            }
        }
    }

    private static void eachOneWrong(int bad, int k) {
        for (int method = RATE; method <= TIME_LOWER; method++) {
            for (int place = 0; place < arguments(method, k).length; place++) {
                int[] a = arguments(method, k);
                a[place] = method == RATE && place == 2 && bad == 4 ? 10 : bad;
                refused(ORDINARY, method, a);
                refused(FULL, method, a);
            }
        }
    }

    private static void severalWrong(int one, int two, int k) {
        refused(ORDINARY, RATE, one, two, k);
        refused(ORDINARY, RATE, one, k, two == 4 ? 10 : two);
        refused(ORDINARY, RATE, k, one, two == 4 ? 10 : two);
        refused(ORDINARY, RATE, one, one, two == 4 ? 10 : two);
        for (int method = CHANCE_UPPER; method <= CHANCE_LOWER; method++) {
            refused(ORDINARY, method, one, two, k);
            refused(ORDINARY, method, one, k, two);
            refused(ORDINARY, method, k, one, two);
            refused(ORDINARY, method, one, two, one);
            refused(ORDINARY, method, one, k, k);
        }
        for (int method = TIME_UPPER; method <= TIME_LOWER; method++) {
            refused(ORDINARY, method, one, two);
        }
    }

    // Promise 1

    private static void newObjectHasRates0() {
        for (int i = 0; i < 4; i++) {
            for (int j = 0; j < 4; j++) {
                if (i != j) {
                    new Chain(PLAIN).due(0, RATE, i, j, 9);
                    Chain x = new Chain(PLAIN, FULL);
                    new Chain(PLAIN).due(0, RATE, i, j, 1);
                    x.due(9, RATE, i, j, 9);
                }
            }
        }
        inEachOrder(o -> new Chain(o).closed(1, 1, 1, 1).noLaw().noTime(0, 1).time(0, 1, 0, 0)
                .chance(0, 1, 0, 1, 2).chance(1, 1, 0, 0, 1).chance(0, 1, 0, 1, 0));
    }

    // Promise 2

    private static void rateSetsAndAnswersTheOneBefore() {
        inEachOrder(o -> {
            Chain x = new Chain(o);
            for (int before = 0; before <= 9; before++) {
                for (int rate = 0; rate <= 9; rate++) {
                    x.rate(rate == 0 ? Math.max(before - 1, 0) : before, 0, 1, rate).rate(rate, 0, 1, before);
                }
            }
            x.rate(9, 0, 1, 9).rate(0, 1, 0, 4).rate(0, 0, 2, 3).rate(9, 0, 1, 0).rate(4, 1, 0, 0).rate(3, 0, 2, 0);
        });
    }

    private static void rateFromAStateToItselfIsRefused() {
        for (int[] rows : CHAINS) {
            for (int i = 0; i < 4; i++) {
                for (int rate = 0; rate <= 9; rate++) {
                    refused(rows, RATE, i, i, rate);
                }
            }
        }
        for (int bad : NO_STATES) {
            refused(ORDINARY, RATE, bad, bad, 1);
        }
    }

    private static void rateBelow0OrAbove9IsRefused() {
        for (int bad : NO_RATES) {
            for (int[] rows : CHAINS) {
                for (int i = 0; i < 4; i++) {
                    for (int j = 0; j < 4; j++) {
                        refused(rows, RATE, i, j, bad);
                    }
                }
            }
        }
    }

    // Promise 4

    private static void uniqueIfExactlyOneLaw() {
        for (int rate : new int[] {1, 9}) {
            forEachPattern(rate, x -> x.due(independentLaws(x.rates) == 1 ? 1 : 0, UNIQUE));
        }
    }

    /** How many laws there are of which none is a mix of the others: 4 less the rank of the balances. */
    private static int independentLaws(int[][] rates) {
        long[][] m = new long[4][4];
        for (int i = 0; i < 4; i++) {
            for (int j = 0; j < 4; j++) {
                m[j][i] += rates[i][j];
                m[i][i] -= rates[i][j];
            }
        }
        int rank = 0;
        for (int column = 0; column < 4; column++) {
            int pivot = rank;
            while (pivot < 4 && m[pivot][column] == 0) {
                pivot++;
            }
            if (pivot == 4) {
                continue;
            }
            long[] top = m[pivot];
            m[pivot] = m[rank];
            m[rank++] = top;
            for (int row = rank; row < 4; row++) {
                long factor = m[row][column];
                for (int k = 0; k < 4; k++) {
                    m[row][k] = m[row][k] * top[column] - top[k] * factor;
                }
            }
        }
        return 4 - rank;
    }

    private static void uniqueIfTheClosedStatesReachEachOther() {
        inEachOrder(o -> new Chain(o).noLaw()
                .rate(0, 0, 1, 1).noLaw()
                .rate(0, 2, 1, 1).noLaw()
                .rate(0, 3, 1, 1).law(0, 1, 0, 0)
                .rate(0, 1, 0, 1).law(1, 1, 0, 0)
                .rate(1, 3, 1, 0).noLaw()
                .rate(0, 3, 2, 1).law(1, 1, 0, 0)
                .rate(0, 2, 3, 1).law(1, 1, 0, 0)
                .rate(1, 2, 1, 0).noLaw()
                .rate(0, 1, 2, 1).law(0, 0, 1, 1)
                .rate(0, 3, 0, 1).due(1, UNIQUE).closed(1, 1, 1, 1));
    }

    // Promise 5

    private static void lawIsRefusedUnlessThereIsOne() {
        int[][] chains = {NONE, TWO_PAIRS, {0, 1, 9, 0, 2, 1}, {0, 1, 1, 1, 2, 1, 2, 0, 1}, {3, 2, 9}};
        for (int[] rows : chains) {
            inEachOrder(o -> {
                for (int i = 0; i < 4; i++) {
                    refused(renamed(o, rows), LAW, i);
                }
            });
        }
        inEachOrder(o -> new Chain(o, 0, 1, 1, 1, 2, 1, 2, 0, 1).noLaw().rate(0, 3, 0, 1).law(1, 1, 1, 0));
    }

    // Promises 6 and 7

    private static void chanceWithoutHavingBeenInU() {
        inEachOrder(o -> new Chain(o, 0, 1, 9, 1, 2, 9).chance(0, 1, 0, 2, 1).chance(1, 1, 0, 1, 2));
        inEachOrder(o -> new Chain(o, 0, 3, 9, 3, 0, 9).chance(0, 1, 0, 1, 2)
                .rate(0, 3, 1, 1).chance(1, 1, 0, 1, 2).chance(0, 1, 0, 2, 1)
                .rate(0, 3, 2, 9).chance(1, 10, 0, 1, 2).chance(9, 10, 0, 2, 1)
                .rate(0, 1, 2, 9).rate(0, 2, 1, 9).chance(1, 10, 3, 1, 2));
    }

    private static void chanceWithTAndUTheSameIsRefused(int method) {
        for (int[] rows : CHAINS) {
            for (int i = 0; i < 4; i++) {
                for (int t = 0; t < 4; t++) {
                    refused(rows, method, i, t, t);
                }
            }
        }
        for (int bad : NO_STATES) {
            refused(ORDINARY, method, 0, bad, bad);
            refused(ORDINARY, method, bad, bad, bad);
        }
    }

    private static void chanceFromTOrU(int method, boolean fromT) {
        for (int[] rows : CHAINS) {
            Chain x = new Chain(PLAIN, rows);
            for (int i = 0; i < 4; i++) {
                for (int other = 0; other < 4; other++) {
                    if (i != other && fromT) {
                        x.due(1, method, i, i, other);
                    } else if (i != other) {
                        x.due(method == CHANCE_UPPER ? 0 : 1, method, i, other, i);
                    }
                }
            }
        }
        for (int bad : NO_STATES) {
            if (fromT) {
                refused(ORDINARY, method, 1, 1, bad);
                refused(ORDINARY, method, bad, bad, 1);
            } else {
                refused(ORDINARY, method, 1, bad, 1);
                refused(ORDINARY, method, bad, 1, bad);
            }
        }
    }

    // Promises 8 and 9

    private static void timeFromT(int method) {
        for (int[] rows : CHAINS) {
            for (int i = 0; i < 4; i++) {
                new Chain(PLAIN, rows).due(method == TIME_UPPER ? 0 : 1, method, i, i);
            }
        }
        for (int bad : NO_STATES) {
            refused(ORDINARY, method, bad, bad);
        }
    }

    private static void timeIsRefusedIfItMayNeverCome(int method) {
        int[][] chains = {NONE, {2, 1, 9}, {0, 1, 9, 0, 2, 9, 0, 3, 1, 2, 1, 9}, {0, 1, 9, 0, 2, 1, 2, 1, 9, 2, 3, 1},
            {0, 1, 9, 0, 2, 1, 2, 3, 1, 3, 2, 1}, {0, 2, 9, 2, 3, 9, 3, 0, 9}, {0, 2, 9, 2, 3, 9, 3, 0, 9, 1, 0, 9}};
        for (int[] rows : chains) {
            inEachOrder(o -> refused(renamed(o, rows), method, o[0], o[1]));
        }
    }

    private static void timeAsksOnlyWhatIsReachedWithoutPassingT() {
        // A state, then a pair, from which t can't be reached: first behind t
        // alone, then before it too, then with a way to t.
        inEachOrder(o -> new Chain(o, 0, 1, 1).time(1, 1, 0, 1)
                .rate(0, 1, 2, 9).time(1, 1, 0, 1).noTime(2, 1)
                .rate(0, 2, 3, 9).rate(0, 3, 2, 9).time(1, 1, 0, 1).time(11, 9, 0, 3)
                .rate(0, 1, 0, 9).time(1, 1, 0, 1).time(19, 9, 0, 2)
                .rate(0, 0, 2, 1).noTime(0, 1)
                .rate(0, 3, 1, 1).time(14, 9, 0, 1));
        // The least rate into a state that stays for ever is enough.
        inEachOrder(o -> new Chain(o, 0, 1, 9, 0, 2, 9, 2, 1, 9, 2, 3, 1).noTime(0, 1).noTime(2, 1)
                .rate(1, 2, 3, 0).time(1, 9, 0, 1).time(1, 9, 2, 1).noTime(3, 1));
    }

    private static void sentence(String words, Runnable test) {
        long wrongBefore = wrong;
        long checkedBefore = checked;
        sentences++;
        try {
            test.run();
        } catch (RuntimeException e) {
            same("the test", e.toString(), "its end");
        }
        same("looking at nothing", checked == checkedBefore, false);
        if (wrong != wrongBefore) {
            broken++;
            System.out.println("BROKEN: " + words);
        }
    }

    private static void termsAndBefore() {
        sentence("What it is: used for at most 512 calls", BoundaryTest::upToTheLastOf512Calls);
        sentence("Terms: states are 0 to 3", BoundaryTest::statesAre0To3);
        sentence("Terms: for each two different states there is a rate", BoundaryTest::aRateForEachTwoDifferentStates);
        sentence("Terms: a rate is an int from 0 to 9", BoundaryTest::ratesAreFrom0To9);
        sentence("Terms: the outflow is the sum of three rates", BoundaryTest::outflowsFrom0To27);
        sentence("Terms: outflow above 0, it jumps with the chance rate / outflow",
                BoundaryTest::jumpsWithTheChanceRateThroughOutflow);
        sentence("Terms: outflow 0, it stays for ever", BoundaryTest::withOutflow0ItStaysForEver);
        sentence("Terms: the mean stay is 1 / outflow", BoundaryTest::meanStaysFromOneTo1Through27);
        sentence("Terms: reached if j = i or by rates above 0", BoundaryTest::reachedWithoutAJumpOrByRatesAbove0);
        sentence("Terms: closed if all that is reached leads back", BoundaryTest::closedIfAllLeadsBack);
        sentence("Terms: a law is 0 or more, not all 0, no common divisor",
                BoundaryTest::lawsAreInLowestTermsAndBalance);
        sentence("Terms: denominator of at least 1, no common divisor", BoundaryTest::fractionsAreInLowestTerms);
        sentence("Terms: wrong arguments are refused, nothing changes", BoundaryTest::wrongArgumentsAreRefused);
    }

    private static void promises1To5() {
        sentence("Promise 1: all rates are 0", BoundaryTest::newObjectHasRates0);
        sentence("Promise 2: sets the rate, answers the one before", BoundaryTest::rateSetsAndAnswersTheOneBefore);
        sentence("Promise 2: -1 if i is no state", () -> noStateRefused(RATE, 0));
        sentence("Promise 2: -1 if j is no state", () -> noStateRefused(RATE, 1));
        sentence("Promise 2: -1 also if i = j", BoundaryTest::rateFromAStateToItselfIsRefused);
        sentence("Promise 2: -1 also if rate is not from 0 to 9", BoundaryTest::rateBelow0OrAbove9IsRefused);
        sentence("Promise 3: -1 if i is no state", () -> noStateRefused(CLOSED, 0));
        sentence("Promise 4: 1 if there is exactly one law", BoundaryTest::uniqueIfExactlyOneLaw);
        sentence("Promise 4: one if all closed states reach each other",
                BoundaryTest::uniqueIfTheClosedStatesReachEachOther);
        sentence("Promise 5: -1 if i is no state", () -> noStateRefused(LAW, 0));
        sentence("Promise 5: -1 also if there is not exactly one law", BoundaryTest::lawIsRefusedUnlessThereIsOne);
    }

    private static void promises6To9() {
        sentence("Promise 6: without having been in u before", BoundaryTest::chanceWithoutHavingBeenInU);
        for (int method = CHANCE_UPPER; method <= CHANCE_LOWER; method++) {
            int asked = method;
            String promise = asked == CHANCE_UPPER ? "Promise 6: " : "Promise 7: ";
            sentence(promise + "t and u different", () -> chanceWithTAndUTheSameIsRefused(asked));
            sentence(promise + "1/1 if i = t", () -> chanceFromTOrU(asked, true));
            sentence(promise + "0/1 if i = u", () -> chanceFromTOrU(asked, false));
            sentence(promise + "-1 if i is no state", () -> noStateRefused(asked, 0));
            sentence(promise + "-1 if t is no state", () -> noStateRefused(asked, 1));
            sentence(promise + "-1 if u is no state", () -> noStateRefused(asked, 2));
        }
        sentence("Promise 8: only what is reached without passing t",
                BoundaryTest::timeAsksOnlyWhatIsReachedWithoutPassingT);
        for (int method = TIME_UPPER; method <= TIME_LOWER; method++) {
            int asked = method;
            String promise = asked == TIME_UPPER ? "Promise 8: " : "Promise 9: ";
            sentence(promise + "0/1 if i = t", () -> timeFromT(asked));
            sentence(promise + "-1 if i is no state", () -> noStateRefused(asked, 0));
            sentence(promise + "-1 if t is no state", () -> noStateRefused(asked, 1));
            sentence(promise + "-1 also if it may never come to t", () -> timeIsRefusedIfItMayNeverCome(asked));
        }
    }

    public static void main(String[] args) {
        termsAndBefore();
        promises1To5();
        promises6To9();
        System.out.println(checked + " answers looked at, " + wrong + " not as due; "
                + sentences + " sentences, " + broken + " broken");
        if (wrong != 0) {
            System.exit(1);
        }
    }
}
