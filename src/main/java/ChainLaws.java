/**
 * Something that jumps between four states at given rates, and where it is in
 * the long run, where it comes first, and when.
 */
public final class ChainLaws {
    private static final int STATES = 4;
    private static final int CELLS = STATES * STATES;
    private static final int OTHERS = STATES - 1;
    private static final int ENTRIES = OTHERS * OTHERS;
    private static final int TOP_RATE = 9;
    private static final int REFUSED = -1;
    private static final int NO_STATE = -1;
    // Euclid's steps on two ints are never more than 46.
    private static final int DIVISOR_STEPS = 64;

    private final int[] rates = new int[CELLS];

    // All below is worked out anew in each call and says nothing to the next.
    private final boolean[] reached = new boolean[CELLS];
    private final int[] matrix = new int[ENTRIES];
    private final int[] right = new int[OTHERS];
    private int upper;
    private int lower;

    public ChainLaws() {
    }

    public int rate(int i, int j, int rate) {
        if (!isState(i) || !isState(j) || i == j) {
            return REFUSED;
        }
        if (rate < 0 || rate > TOP_RATE) {
            return REFUSED;
        }
        int before = rates[i * STATES + j];
        rates[i * STATES + j] = rate;
        return before;
    }

    public int closed(int i) {
        if (!isState(i)) {
            return REFUSED;
        }
        findReached(NO_STATE);
        return isClosed(i) ? 1 : 0;
    }

    public int unique() {
        return hasOneLaw() ? 1 : 0;
    }

    public int law(int i) {
        if (!isState(i) || !hasOneLaw()) {
            return REFUSED;
        }
        // By the matrix-tree theorem the law is in proportion to what is left
        // of the balance equations when each state in turn is taken out.
        int own = 0;
        int divisor = 0;
        for (int state = 0; state < STATES; state++) {
            fillMatrix(state);
            int weight = determinant();
            divisor = commonDivisor(divisor, weight);
            if (state == i) {
                own = weight;
            }
        }
        return divisor < 1 ? REFUSED : own / divisor;
    }

    public int chanceUpper(int i, int t, int u) {
        findChance(i, t, u);
        return upper;
    }

    public int chanceLower(int i, int t, int u) {
        findChance(i, t, u);
        return lower;
    }

    public long timeUpper(int i, int t) {
        findTime(i, t);
        return upper;
    }

    public long timeLower(int i, int t) {
        findTime(i, t);
        return lower;
    }

    private static boolean isState(int k) {
        return k >= 0 && k < STATES;
    }

    /** Jumps out of the state stop don't count; NO_STATE lets all count. */
    private void findReached(int stop) {
        for (int from = 0; from < STATES; from++) {
            for (int to = 0; to < STATES; to++) {
                int cell = from * STATES + to;
                reached[cell] = from == to || (from != stop && rates[cell] > 0);
            }
        }
        // The middle state must be the outermost loop: then one pass is enough.
        for (int via = 0; via < STATES; via++) {
            for (int from = 0; from < STATES; from++) {
                for (int to = 0; to < STATES; to++) {
                    if (canReach(from, via) && canReach(via, to)) {
                        reached[from * STATES + to] = true;
                    }
                }
            }
        }
    }

    private boolean canReach(int from, int to) {
        return reached[from * STATES + to];
    }

    private boolean isClosed(int i) {
        for (int j = 0; j < STATES; j++) {
            if (canReach(i, j) && !canReach(j, i)) {
                return false;
            }
        }
        return true;
    }

    private boolean hasOneLaw() {
        findReached(NO_STATE);
        for (int i = 0; i < STATES; i++) {
            for (int j = 0; j < STATES; j++) {
                if (isClosed(i) && isClosed(j) && !canReach(i, j)) {
                    return false;
                }
            }
        }
        return true;
    }

    private void findChance(int i, int t, int u) {
        forgetFraction();
        if (!isState(i) || !isState(t) || !isState(u) || t == u) {
            return;
        }
        if (i == t) {
            setFraction(1, 1);
            return;
        }
        findReached(NO_STATE);
        fillMatrix(t);
        for (int row = 0; row < OTHERS; row++) {
            int state = stateAt(row, t);
            right[row] = rates[state * STATES + t];
            // A state that leads to neither t nor u has a chance of 0, but its
            // own equation would not say so: it would leave the chance open.
            boolean lost = !canReach(state, t) && !canReach(state, u);
            if (state == u || lost) {
                holdAtZero(row);
            }
        }
        solveFor(i, t);
    }

    private void findTime(int i, int t) {
        forgetFraction();
        if (!isState(i) || !isState(t)) {
            return;
        }
        if (i == t) {
            setFraction(0, 1);
            return;
        }
        findReached(t);
        if (mayMiss(i, t)) {
            return;
        }
        fillMatrix(t);
        for (int row = 0; row < OTHERS; row++) {
            int state = stateAt(row, t);
            right[row] = 1;
            // A state off the way may itself never come to t and would then
            // leave the equations without an answer.
            if (!canReach(i, state)) {
                holdAtZero(row);
            }
        }
        solveFor(i, t);
    }

    private boolean mayMiss(int i, int t) {
        for (int state = 0; state < STATES; state++) {
            if (canReach(i, state) && !canReach(state, t)) {
                return true;
            }
        }
        return false;
    }

    private int outflow(int i) {
        int sum = 0;
        for (int j = 0; j < STATES; j++) {
            sum += rates[i * STATES + j];
        }
        return sum;
    }

    private static int stateAt(int row, int out) {
        return row < out ? row : row + 1;
    }

    private static int rowOf(int state, int out) {
        return state < out ? state : state - 1;
    }

    /** Outflows less rates, for the three states other than the state out. */
    private void fillMatrix(int out) {
        for (int row = 0; row < OTHERS; row++) {
            int from = stateAt(row, out);
            for (int column = 0; column < OTHERS; column++) {
                int to = stateAt(column, out);
                int entry = from == to ? outflow(from) : -rates[from * STATES + to];
                matrix[row * OTHERS + column] = entry;
            }
        }
    }

    private void holdAtZero(int row) {
        for (int column = 0; column < OTHERS; column++) {
            matrix[row * OTHERS + column] = row == column ? 1 : 0;
        }
        right[row] = 0;
    }

    /** Cramer's rule, as it stays within whole numbers, and small ones. */
    private void solveFor(int state, int out) {
        int below = determinant();
        int column = rowOf(state, out);
        for (int row = 0; row < OTHERS; row++) {
            matrix[row * OTHERS + column] = right[row];
        }
        int above = determinant();
        setFraction(above, below);
    }

    private int determinant() {
        int first = matrix[4] * matrix[8] - matrix[5] * matrix[7];
        int second = matrix[3] * matrix[8] - matrix[5] * matrix[6];
        int third = matrix[3] * matrix[7] - matrix[4] * matrix[6];
        return matrix[0] * first - matrix[1] * second + matrix[2] * third;
    }

    private void forgetFraction() {
        upper = REFUSED;
        lower = REFUSED;
    }

    private void setFraction(int above, int below) {
        int divisor = commonDivisor(above, below);
        if (divisor < 1) {
            return;
        }
        upper = above / divisor;
        lower = below / divisor;
    }

    private static int commonDivisor(int a, int b) {
        int big = a;
        int small = b;
        for (int step = 0; step < DIVISOR_STEPS && small != 0; step++) {
            int rest = big % small;
            big = small;
            small = rest;
        }
        return big;
    }
}
