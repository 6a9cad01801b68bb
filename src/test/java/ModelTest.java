import java.math.BigInteger;

/**
 * Long runs of calls against a plain model. The model takes another way than the
 * class: states are taken out one by one, in fractions, and a law is only held
 * against its own definition.
 */
public final class ModelTest {
    private static final int CALLS = 512;
    private static int wrong = 0;
    private static long checked = 0;
    private static long seed = 20261115L;

    private record Fraction(BigInteger upper, BigInteger lower) {
        static final Fraction ZERO = of(0, 1);
        static final Fraction ONE = of(1, 1);

        static Fraction of(long upper, long lower) {
            return reduced(BigInteger.valueOf(upper), BigInteger.valueOf(lower));
        }

        static Fraction reduced(BigInteger upper, BigInteger lower) {
            BigInteger divisor = upper.gcd(lower);
            if (lower.signum() < 0) {
                divisor = divisor.negate();
            }
            return new Fraction(upper.divide(divisor), lower.divide(divisor));
        }

        Fraction plus(Fraction o) {
            return reduced(upper.multiply(o.lower).add(o.upper.multiply(lower)), lower.multiply(o.lower));
        }

        Fraction times(Fraction o) {
            return reduced(upper.multiply(o.upper), lower.multiply(o.lower));
        }

        Fraction through(Fraction o) {
            return reduced(upper.multiply(o.lower), lower.multiply(o.upper));
        }

        Fraction fromOne() {
            return reduced(lower.subtract(upper), lower);
        }

        boolean isZero() {
            return upper.signum() == 0;
        }
    }

    private static int next(int bound) {
        seed = seed * 6364136223846793005L + 1442695040888963407L;
        return (int) ((seed >>> 33) % bound);
    }

    private static void due(String what, int[][] r, long got, long want) {
        checked++;
        if (got != want) {
            wrong++;
            if (wrong <= 20) {
                System.out.println(java.util.Arrays.deepToString(r) + ": " + what
                        + " answered " + got + ", due is " + want);
            }
        }
    }

    private static boolean state(int k) {
        return 0 <= k && k <= 3;
    }

    private static int outflow(int[][] r, int i) {
        return r[i][0] + r[i][1] + r[i][2] + r[i][3];
    }

    /** The states that can be reached from i; jumps out of stop don't count. */
    private static boolean[] reach(int[][] r, int i, int stop) {
        boolean[] seen = new boolean[4];
        int[] queue = new int[4];
        int end = 0;
        queue[end++] = i;
        seen[i] = true;
        for (int k = 0; k < end; k++) {
            for (int j = 0; j < 4 && queue[k] != stop; j++) {
                if (r[queue[k]][j] > 0 && !seen[j]) {
                    seen[j] = true;
                    queue[end++] = j;
                }
            }
        }
        return seen;
    }

    private static boolean closed(int[][] r, int i) {
        boolean[] from = reach(r, i, -1);
        for (int j = 0; j < 4; j++) {
            if (from[j] && !reach(r, j, -1)[i]) {
                return false;
            }
        }
        return true;
    }

    private static boolean unique(int[][] r) {
        for (int i = 0; i < 4; i++) {
            for (int j = 0; j < 4; j++) {
                if (closed(r, i) && closed(r, j) && !reach(r, i, -1)[j]) {
                    return false;
                }
            }
        }
        return true;
    }

    private static Fraction[][] jumps(int[][] r) {
        Fraction[][] p = new Fraction[4][4];
        for (int i = 0; i < 4; i++) {
            for (int j = 0; j < 4; j++) {
                p[i][j] = outflow(r, i) == 0 ? Fraction.ZERO : Fraction.of(r[i][j], outflow(r, i));
            }
        }
        return p;
    }

    /** Lets every way pass straight through k; what stays in k for ever is lost. */
    private static void takeOut(Fraction[][] p, Fraction[] stay, int k) {
        Fraction leave = p[k][k].fromOne();
        for (int i = 0; i < 4; i++) {
            Fraction in = p[i][k];
            if (i == k || in.isZero()) {
                continue;
            }
            if (!leave.isZero()) {
                Fraction weight = in.through(leave);
                for (int j = 0; j < 4; j++) {
                    if (j != k) {
                        p[i][j] = p[i][j].plus(weight.times(p[k][j]));
                    }
                }
                stay[i] = stay[i].plus(weight.times(stay[k]));
            }
            p[i][k] = Fraction.ZERO;
        }
    }

    private static Fraction[] noStays() {
        return new Fraction[] {Fraction.ZERO, Fraction.ZERO, Fraction.ZERO, Fraction.ZERO};
    }

    /** Null where the call is refused. */
    private static Fraction chance(int[][] r, int i, int t, int u) {
        if (!state(i) || !state(t) || !state(u) || t == u) {
            return null;
        }
        if (i == t || i == u) {
            return i == t ? Fraction.ONE : Fraction.ZERO;
        }
        Fraction[][] p = jumps(r);
        int k = 6 - i - t - u;
        takeOut(p, noStays(), k);
        Fraction leave = p[i][i].fromOne();
        return leave.isZero() ? Fraction.ZERO : p[i][t].through(leave);
    }

    /** Null where the call is refused. */
    private static Fraction time(int[][] r, int i, int t) {
        if (!state(i) || !state(t)) {
            return null;
        }
        if (i == t) {
            return Fraction.ZERO;
        }
        boolean[] way = reach(r, i, t);
        for (int k = 0; k < 4; k++) {
            if (way[k] && !reach(r, k, -1)[t]) {
                return null;
            }
        }
        Fraction[][] p = jumps(r);
        Fraction[] stay = noStays();
        for (int k = 0; k < 4; k++) {
            if (way[k] && k != t) {
                stay[k] = Fraction.of(1, outflow(r, k));
            }
        }
        for (int k = 0; k < 4; k++) {
            if (k != i && k != t) {
                takeOut(p, stay, k);
            }
        }
        return stay[i].through(p[i][i].fromOne());
    }

    private static void dueLaw(ChainLaws x, int[][] r) {
        boolean one = unique(r);
        long[] law = new long[4];
        for (int i = 0; i < 4; i++) {
            law[i] = x.law(i);
            if (!one) {
                due("law(" + i + ")", r, law[i], -1);
            }
        }
        if (!one) {
            return;
        }
        BigInteger divisor = BigInteger.ZERO;
        for (int j = 0; j < 4; j++) {
            long in = 0;
            for (int i = 0; i < 4; i++) {
                in += law[i] * r[i][j];
            }
            due("balance of " + j, r, in, law[j] * outflow(r, j));
            due("law(" + j + ") below 0", r, law[j] < 0 ? 1 : 0, 0);
            divisor = divisor.gcd(BigInteger.valueOf(law[j]));
        }
        due("common divisor of the law", r, divisor.longValueExact(), 1);
    }

    private static void dueChance(ChainLaws x, int[][] r, int i, int t, int u) {
        Fraction want = chance(r, i, t, u);
        String call = "(" + i + ", " + t + ", " + u + ")";
        due("chanceUpper" + call, r, x.chanceUpper(i, t, u), want == null ? -1 : want.upper.longValueExact());
        due("chanceLower" + call, r, x.chanceLower(i, t, u), want == null ? -1 : want.lower.longValueExact());
    }

    private static void dueTime(ChainLaws x, int[][] r, int i, int t) {
        Fraction want = time(r, i, t);
        String call = "(" + i + ", " + t + ")";
        due("timeUpper" + call, r, x.timeUpper(i, t), want == null ? -1 : want.upper.longValueExact());
        due("timeLower" + call, r, x.timeLower(i, t), want == null ? -1 : want.lower.longValueExact());
    }

    private static void dueAll(ChainLaws x, int[][] r) {
        due("unique()", r, x.unique(), unique(r) ? 1 : 0);
        dueLaw(x, r);
        for (int i = 0; i < 4; i++) {
            due("closed(" + i + ")", r, x.closed(i), closed(r, i) ? 1 : 0);
            for (int t = 0; t < 4; t++) {
                dueTime(x, r, i, t);
                for (int u = 0; u < 4; u++) {
                    dueChance(x, r, i, t, u);
                }
            }
        }
    }

    /** Every way in which some rates can be 0 and the others not. */
    private static void everyPattern(int rounds) {
        for (int round = 0; round < rounds; round++) {
            for (int pattern = 0; pattern < 4096; pattern++) {
                ChainLaws x = new ChainLaws();
                int[][] r = new int[4][4];
                int bits = pattern;
                for (int i = 0; i < 4; i++) {
                    for (int j = 0; j < 4; j++) {
                        if (i != j) {
                            r[i][j] = (bits & 1) * (1 + next(9));
                            bits >>= 1;
                            due("rate on a new object", r, x.rate(i, j, r[i][j]), 0);
                        }
                    }
                }
                dueAll(x, r);
            }
        }
    }

    /** One object through its 512 calls, with wrong arguments among the right ones. */
    private static void longRun() {
        ChainLaws x = new ChainLaws();
        int[][] r = new int[4][4];
        int zeros = next(4);
        for (int call = 0; call < CALLS - 4; call++) {
            int i = next(40) == 0 ? (next(2) == 0 ? -1 : 4) : next(4);
            int j = next(40) == 0 ? (next(2) == 0 ? -1 : 4) : next(4);
            int u = next(40) == 0 ? (next(2) == 0 ? -1 : 4) : next(4);
            switch (next(6)) {
                case 0, 1 -> dueRate(x, r, i, j, next(4) < zeros ? 0 : next(12) - 1);
                case 2 -> due("closed(" + i + ")", r, x.closed(i), !state(i) ? -1 : closed(r, i) ? 1 : 0);
                case 3 -> {
                    due("unique()", r, x.unique(), unique(r) ? 1 : 0);
                    dueLaw(x, r);
                    call += 4;
                }
                case 4 -> {
                    dueChance(x, r, i, j, u);
                    call++;
                }
                default -> {
                    dueTime(x, r, i, j);
                    call++;
                }
            }
        }
    }

    private static void dueRate(ChainLaws x, int[][] r, int i, int j, int rate) {
        boolean right = state(i) && state(j) && i != j && 0 <= rate && rate <= 9;
        due("rate(" + i + ", " + j + ", " + rate + ")", r, x.rate(i, j, rate), right ? r[i][j] : -1);
        if (right) {
            r[i][j] = rate;
        }
    }

    public static void main(String[] args) {
        everyPattern(3);
        for (int run = 0; run < 500; run++) {
            longRun();
        }
        System.out.println(checked + " answers looked at, " + wrong + " not as due");
        if (wrong != 0 || checked == 0) {
            System.exit(1);
        }
    }
}
